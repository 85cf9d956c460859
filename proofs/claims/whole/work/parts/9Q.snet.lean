/-! network -/
section SNet
variable {N : Nat}
theorem Gd_new {ν : Nt} {up : Int32} (hn : WfN ν) : Gd ν (fun _ => [], fun t => ν.T t 2, up) := by
  refine ⟨fun t ht => ?_, fun l hl => ?_⟩
  · have h := hn.2.2.2.2.2 t ht
    exact ⟨h.2.2.2.1, h.2.2.2.2.1, Or.inl rfl⟩
  · unfold pl
    have h0 : sm (fun i => if i ≠ 99 ∧ ν.T i 4 ≤ 7 ∧ l ∈ ([] : List Nat) then ((ν.T i 2 : Nat) : Int) else 0) ν.tn = 0 := by
      rw [sm_congr (g := fun _ => 0) (fun k _ => if_neg (fun q => by cases q.2.2)), sm_0]
    have h1 := (hn.2.2.2.2.1 l hl).2.2.2.2.2.1
    show 0 ≤ (ν.L l 3 : Int) - sm (fun i => if i ≠ 99 ∧ ν.T i 4 ≤ 7 ∧ l ∈ ([] : List Nat) then ((ν.T i 2 : Nat) : Int) else 0) ν.tn
    rw [h0]
    omega
set_option maxHeartbeats 4000000 in
theorem s_network (hN : 100000000000 ≤ N) : St_network N Inv := by
  intro c I J a1 hc hInv
  obtain ⟨⟨ν, σ, ks, vs, hP⟩, mv⟩ := id hInv
  obtain ⟨hn, g, c1, m1, c2, m2, ac, sg, im, tp, ct⟩ := id hP
  have s0 : ∀ {K : gI}, Sm K (upd2 K 310 0 0) := Sm.rf.u0
  obtain ⟨n0, t1, t2, t3, t4⟩ := tp
  have refused : mX10_network N a1 I = some (.inr xnA, I) → (if a1 < 0 then (some 0) else (if ((upd2 I 310 0 0) 310 2) < a1 then (some 0) else (some 1)) : Option (Int32)) = some 0 → ∃ (rv : Int32 ⊕ String) (I1 : gI) (bb : Int32) (I2 : gI) (J2 : gJ), mX10_network N a1 I = some (rv, I1) ∧ (∀ E, rv = .inr E → E = xnA) ∧ mX11_network N a1 I1 (jL rv J) = some (bb, I2, J2) ∧ I2 310 0 = kL1 rv ∧ (∀ v, rv = .inl v → v = bb) ∧ J2 337 0 = (jL rv J) 337 0 ∧ Inv (c + 1) I2 := by
    intro e1 e2
    refine ⟨.inr xnA, I, 0, upd2 (upd2 I 310 0 0) 310 0 1, J, e1, fun E h => (Sum.inr.inj h).symm, ?_, u2_at, fun v h => (by cases h), rfl, hInv.sm (s0.u (by unfold Kp; omega))⟩
    show mX11_network N a1 I J = _
    unfold mX11_network
    rw [e2, ob_some, m_right0 u2_at (by decide), ob_some]
    dsimp only
    rw [if_pos rfl]
  rcases i_nn a1 with h | ⟨m, hm1, rfl⟩
  · refine refused ?_ ?_
    · unfold mX10_network
      rw [if_pos h]
    · rw [if_pos h]
  · by_cases hm : m ≤ n0
    · have hex : ∃ B : Nat → Nat, ∀ j, j < n0 → B j < 256 ∧ I 311 j = nI (B j) ∧ I 1 j = (nI (B j)).toInt8.toInt32 := by
        refine ⟨fun j => if h : j < n0 then Classical.choose (t4 j h) else 0, fun j hj => ?_⟩
        have := Classical.choose_spec (t4 j hj)
        simp only [dif_pos hj]
        exact this
      obtain ⟨B, hB⟩ := hex
      obtain ⟨I4, e4, s4, d4, f4⟩ := c_read (b := B) (n := m) (N := N) (I := I) (by omega) (by omega) (fun j hj => ⟨(hB j (by omega)).1, (hB j (by omega)).2.2⟩)
      have hM : ∀ (I1 : gI) (J1 : gJ), I1 310 = I 310 → I1 311 = I 311 → _ := fun I1 J1 g1 g2 => m_net (b := B) (n := m) (n0 := n0) (N := N) (I := I1) (J := J1) (by omega) hm t1 (by rw [g1]; exact t3) (fun j hj => ⟨(hB j (by omega)).1, by rw [g2]; exact (hB j (by omega)).2.1⟩)
      generalize pAll B m = R at e4 s4 d4 hM
      have r28 : I4 28 7 = pl7 R.2 := s4.2.2.2.2.1
      have hS4 : R.2.1 ≤ 4 := s4.2.2.2.1
      by_cases hS : R.2.1 = 0
      · obtain ⟨dC, wf⟩ := d4 hS
        have hpl : pl7 R.2 = -1 := if_pos hS
        have hln := wf.2.2.1
        have htn := wf.2.2.2.1
        obtain ⟨A, hA⟩ : ∃ A, A = upd2 (upd2 I4 0 2 (I4 28 7)) 0 1 0 := ⟨_, rfl⟩
        have aC : ∀ x, x ≠ 0 → A x = I4 x := fun x hx => by rw [hA, u2_c hx, u2_c hx]
        obtain ⟨I7, e7, n70, n71, n72, n7l, n7t, f7⟩ := c_net (I := A)
        obtain ⟨I9, e9, b9, w9, f9⟩ := c_begin (N := N) (I := I7) (u := 36) (by omega) (by omega)
        obtain ⟨I1, hI1⟩ : ∃ I1, I1 = upd2 (upd2 (upd2 I9 51 2 0) 173 5 0) 0 16 0 := ⟨_, rfl⟩
        have eC : mX10_network N (nI m) I = some (.inl 0, I1) := by
          unfold mX10_network mX0_clear mX7_clear
          rw [if_neg (nI_pos (by omega)), t2, if_pos (nI_le hm (by omega)), e4, ob_some]
          dsimp only
          rw [if_pos (by rw [hS]; rfl), ← hA, e7, ob_some, e9, ob_some, ob_some, ob_some, ← hI1]
        have i9 : ∀ x, x ≠ 0 → x ≠ 51 → x ≠ 173 → I1 x = I9 x := fun x h1 h2 h3 => by rw [hI1, u2_c h1, u2_c h3, u2_c h2]
        have i7 : ∀ x, x ≠ 0 → x ≠ 51 → x ≠ 173 → (x < 36 ∨ 38 < x) → I1 x = I7 x := fun x h1 h2 h3 h4 => by rw [i9 x h1 h2 h3, f9 x (by omega) (by omega) (by omega)]
        have i0 : ∀ x, x ≠ 0 → x ≠ 51 → x ≠ 173 → (x < 36 ∨ 38 < x) → (x < 2 ∨ 28 < x) → I1 x = I x := fun x h1 h2 h3 h4 h5 => by rw [i7 x h1 h2 h3 h4, f7 x (by omega), aC x h1, f4 x (by omega)]
        have z0 : ∀ j, j ≠ 16 → I1 0 j = A 0 j := fun j hj => by rw [hI1, u2_ne (by omega), u2_c (by decide), u2_c (by decide), f9 0 (by omega) (by omega) (by omega), f7 0 (by omega)]
        have z016 : I1 0 16 = 0 := by rw [hI1, u2_at]
        have z01 : I1 0 1 = 0 := by rw [z0 1 (by decide), hA, u2_at]
        have z02 : I1 0 2 = -1 := by rw [z0 2 (by decide), hA, u2_ne (by omega), u2_at, r28, hpl]
        have z0r : ∀ j, j ≠ 16 → j ≠ 1 → j ≠ 2 → I1 0 j = I 0 j := fun j h1 h2 h3 => by rw [z0 j h1, hA, u2_ne (by omega), u2_ne (by omega), f4 0 (by omega)]
        have z51 : ∀ j, j ≠ 2 → I1 51 j = I 51 j := fun j hj => by rw [hI1, u2_c (by decide), u2_c (by decide), u2_ne (by omega), f9 51 (by omega) (by omega) (by omega), f7 51 (by omega), aC 51 (by decide), f4 51 (by omega)]
        have z512 : I1 51 2 = 0 := by rw [hI1, u2_c (by decide), u2_c (by decide), u2_at]
        have z173 : I1 173 5 = 0 := by rw [hI1, u2_c (by decide), u2_at]
        obtain ⟨K, J', sK, dK, fK, k0, k2, kr, kJ, eM⟩ := hM I1 (jL (.inl 0) J) (i0 310 (by omega) (by omega) (by omega) (by omega) (by omega)) (i0 311 (by omega) (by omega) (by omega) (by omega) (by omega))
        have dM := dK hS
        obtain ⟨I46, h46⟩ : ∃ I46, I46 = upd2 (upd2 (upd2 K 310 13 (K 310 16)) 310 14 ((upd2 K 310 13 (K 310 16)) 310 17)) 310 15 ((upd2 (upd2 K 310 13 (K 310 16)) 310 14 ((upd2 K 310 13 (K 310 16)) 310 17)) 310 18) := ⟨_, rfl⟩
        have g46 : ∀ x, x ≠ 310 → I46 x = K x := fun x hx => by rw [h46, u2_c hx, u2_c hx, u2_c hx]
        have g46j : ∀ j, j < 13 ∨ 15 < j → I46 310 j = K 310 j := fun j hj => by rw [h46, u2_ne (by omega), u2_ne (by omega), u2_ne (by omega)]
        have q13 : I46 310 13 = nI R.1.nn := by rw [h46, u2_ne (by omega), u2_ne (by omega), u2_at]; exact dM.1
        have q14 : I46 310 14 = nI R.1.ln := by rw [h46, u2_ne (by omega), u2_at, u2_ne (by omega)]; exact dM.2.1
        have q15 : I46 310 15 = nI R.1.tn := by rw [h46, u2_at, u2_ne (by omega), u2_ne (by omega)]; exact dM.2.2.1
        obtain ⟨I47, e47, f47, p47⟩ := m_cp_314_313 (N := N) (I := I46) (by omega)
        obtain ⟨I49, e49, f49, p49⟩ := m_cp_316_315 (N := N) (I := I47) (by omega)
        obtain ⟨I51, h51⟩ : ∃ I51, I51 = upd2 I49 317 0 (((1 : Int32) <<< ((I49 310 14) &&& 31)) - 1) := ⟨_, rfl⟩
        have g51 : ∀ x, x ≠ 317 → I51 x = I49 x := fun x hx => by rw [h51, u2_c hx]
        have g310 : I51 310 = I46 310 := by rw [g51 310 (by decide), f49 310 (by decide), f47 310 (by decide)]
        obtain ⟨I64, e64, f64, p64, w64⟩ := m_begin (N := N) (I := I51) (J := J') (tn := R.1.tn) (by omega) (by rw [g310]; exact q15) htn
        obtain ⟨I2, hI2⟩ : ∃ I2, I2 = upd2 (upd2 (upd2 I64 310 25 0) 310 45 0) 310 48 0 := ⟨_, rfl⟩
        have j51 : ∀ x, x ≠ 310 → x ≠ 317 → I2 x = I51 x := fun x h1 h2 => by rw [hI2, u2_c h1, u2_c h1, u2_c h1, f64 x h2]
        have jj : ∀ j, j ≠ 25 → j ≠ 45 → j ≠ 48 → I2 310 j = I46 310 j := fun j h1 h2 h3 => by rw [hI2, u2_ne (by omega), u2_ne (by omega), u2_ne (by omega), f64 310 (by decide), g310]
        have kk : ∀ x, x ≠ 310 → x ≠ 313 → x ≠ 314 → x ≠ 315 → x ≠ 316 → x ≠ 317 → I2 x = I1 x := fun x h1 h2 h3 h4 h5 h6 => by rw [j51 x h1 h6, g51 x h6, f49 x h4, f47 x h2, g46 x h1, fK x h1 h3 h5]
        have k313 : I2 313 = I47 313 := by rw [j51 313 (by decide) (by decide), g51 313 (by decide), f49 313 (by decide)]
        have k315 : I2 315 = I49 315 := by rw [j51 315 (by decide) (by decide), g51 315 (by decide)]
        have k317 : I2 317 = I64 317 := by rw [hI2, u2_c (by decide), u2_c (by decide), u2_c (by decide)]
        have kp : ∀ x, x ≠ 0 → x ≠ 51 → x ≠ 173 → (x < 36 ∨ 38 < x) → (x < 2 ∨ 28 < x) → x ≠ 310 → x ≠ 313 → x ≠ 314 → x ≠ 315 → x ≠ 316 → x ≠ 317 → I2 x = I x := fun x h1 h2 h3 h4 h5 h6 h7 h8 h9 h10 h11 => by rw [kk x h6 h7 h8 h9 h10 h11, i0 x h1 h2 h3 h4 h5]
        have n47 : ∀ i, i < 80 → I2 313 i = K 314 i := fun i hi => by rw [k313, p47 i hi, g46 314 (by decide)]
        have n49 : ∀ i, i < 63 → I2 315 i = K 316 i := fun i hi => by rw [k315, p49 i hi, f47 316 (by decide), g46 316 (by decide)]
        refine ⟨.inl 0, I1, 0, I2, J', eC, fun E h => (by cases h), ?_, ?_, fun v h => (Sum.inl.inj h).symm, by rw [kJ], ⟨R.1, (fun _ => [], fun t => R.1.T t 2, ((1 : Int32) <<< (nI R.1.ln &&& 31)) - 1), [], [], wf, Gd_new wf, ?_, ?_, ?_, ?_, ?_, ?_, ?_, ?_, ?_⟩, ?_⟩
        · rw [eM, m_good1 sK hS, ob_some, if_neg (by decide), nm_n, ← h46, e47, ob_some, e49, ob_some, show (0 : Int32).toNatClampNeg = 0 from rfl, ← h51, nm_n, e64, ob_some, ← hI2]
        · show _ = (0 : Int32)
          rw [jj 0 (by decide) (by decide) (by decide), g46j 0 (by omega), k0]
        · have r2 : I2 2 = I7 2 := by rw [kk 2 (by decide) (by decide) (by decide) (by decide) (by decide) (by decide), i7 2 (by decide) (by decide) (by decide) (by omega)]
          have rr : ∀ x, 3 ≤ x → x < 15 → I2 x = I7 x := fun x h1 h2 => by rw [kk x (by omega) (by omega) (by omega) (by omega) (by omega) (by omega), i7 x (by omega) (by omega) (by omega) (by omega)]
          refine ⟨by rw [r2, n70, aC 15 (by decide)]; exact dC.1, by rw [r2, n71, aC 15 (by decide)]; exact dC.2.1, by rw [r2, n72, aC 15 (by decide)]; exact dC.2.2.1, fun l hl j hj => ?_, fun t ht j hj => ?_⟩
          · rw [rr _ (by omega) (by omega), n7l j hj l (by omega), aC _ (by omega)]
            exact dC.2.2.2.1 l hl j hj
          · rw [rr _ (by omega) (by omega), n7t j hj t (by omega), aC _ (by omega)]
            exact dC.2.2.2.2 t ht j hj
        · refine ⟨by rw [jj 13 (by decide) (by decide) (by decide)]; exact q13, by rw [jj 14 (by decide) (by decide) (by decide)]; exact q14, by rw [jj 15 (by decide) (by decide) (by decide)]; exact q15, fun l hl j hj => ?_, fun t ht j hj => ?_⟩
          · rw [n47 _ (by omega)]; exact dM.2.2.2.1 l hl j hj
          · rw [n49 _ (by omega)]; exact dM.2.2.2.2 t ht j hj
        · have r36 : ∀ x, 36 ≤ x → x < 39 → I2 x = I9 x := fun x h1 h2 => by rw [kk x (by omega) (by omega) (by omega) (by omega) (by omega) (by omega), i9 x (by omega) (by omega) (by omega)]
          refine ⟨?_, fun t ht => ⟨?_, ?_⟩⟩
          · rw [r36 36 (by omega) (by omega), b9, n71, aC 15 (by decide), dC.2.1]
          · rw [r36 _ (by omega) (by omega), (w9 t (by omega)).1]; rfl
          · rw [r36 _ (by omega) (by omega), (w9 t (by omega)).2]
            show I7 (8 + 2) t = _
            rw [n7t 2 (by omega) t (by omega), aC _ (by omega)]
            exact dC.2.2.2.2 t ht 2 (by omega)
        · refine ⟨?_, fun t ht => ⟨?_, ?_, fun k hk => (by cases hk)⟩⟩
          · rw [k317, p64, h51, u2_at, f49 310 (by decide), f47 310 (by decide), q14]
          · rw [Nat.zero_add, k317, (w64 t (by omega)).1 ht, g51 315 (by decide), p49 _ (by omega), f47 316 (by decide), g46 316 (by decide)]
            exact dM.2.2.2.2 t ht 2 (by omega)
          · rw [Nat.zero_add, k317, (w64 t (by omega)).2]; rfl
        · obtain ⟨h1, h2, ⟨f, q1, q2, q3, q4⟩, w1, w2⟩ := ac
          have r51 : I2 51 = I1 51 := kk 51 (by decide) (by decide) (by decide) (by decide) (by decide) (by decide)
          exact ⟨Nat.zero_le _, fun k hk => (by cases hk), ⟨f, q1, by rw [r51, z51 1 (by decide)]; exact q2, by rw [r51, z512]; rfl, fun j hj => (by cases hj)⟩, by rw [hI2, u2_ne (by omega), u2_ne (by omega), u2_at]; rfl, fun j hj => (by cases hj)⟩
        · exact ⟨Nat.zero_le _, fun k hk => (by cases hk), by rw [kk 173 (by decide) (by decide) (by decide) (by decide) (by decide) (by decide), z173]; rfl, by rw [hI2, u2_ne (by omega), u2_at]; rfl, fun j hj => (by cases hj)⟩
        · have r016 : I2 0 16 = 0 := by rw [kk 0 (by decide) (by decide) (by decide) (by decide) (by decide) (by decide), z016]
          exact ⟨by rw [r016, hI2, u2_at], Or.inl r016⟩
        · exact ⟨0, Nat.zero_le _, by rw [kk 0 (by decide) (by decide) (by decide) (by decide) (by decide) (by decide), z01]; rfl, by rw [jj 2 (by decide) (by decide) (by decide), g46j 2 (by omega), k2]; rfl, fun j hj => absurd hj (Nat.not_lt_zero _)⟩
        · have r0 : I2 0 = I1 0 := kk 0 (by decide) (by decide) (by decide) (by decide) (by decide) (by decide)
          have r312 : I2 312 = I 312 := kp 312 (by decide) (by decide) (by decide) (by omega) (by omega) (by decide) (by decide) (by decide) (by decide) (by decide) (by decide)
          unfold Ctr
          rw [jj 4 (by decide) (by decide) (by decide), g46j 4 (by omega), sK.2.2.2.2.1, hpl, r0, z02, z0r 3 (by decide) (by decide) (by decide), z0r 4 (by decide) (by decide) (by decide), z0r 5 (by decide) (by decide) (by decide), r312]
          exact ⟨rfl, ct.2⟩
        · obtain ⟨mm, q1, q2, q3⟩ := mv
          exact ⟨mm, by omega, by rw [kp 43 (by decide) (by decide) (by decide) (by omega) (by omega) (by decide) (by decide) (by decide) (by decide) (by decide) (by decide)]; exact q2, fun s hs => by rw [kp 49 (by decide) (by decide) (by decide) (by omega) (by omega) (by decide) (by decide) (by decide) (by decide) (by decide) (by decide)]; exact q3 s hs⟩
      · obtain ⟨I1, hI1⟩ : ∃ I1, I1 = upd2 (upd2 (upd2 I4 0 2 (I4 28 7)) 0 1 0) 0 3 (((upd2 (upd2 I4 0 2 (I4 28 7)) 0 1 0) 0 3) + 1) := ⟨_, rfl⟩
        have eC : mX10_network N (nI m) I = some (.inl (nI R.2.1), I1) := by
          unfold mX10_network
          rw [if_neg (nI_pos (by omega)), t2, if_pos (nI_le hm (by omega)), e4, ob_some]
          dsimp only
          rw [if_neg (fun q => hS ((nI_eq0 (by omega)).mp q)), ← hI1, nm_n]
        have i4 : ∀ x, x ≠ 0 → I1 x = I4 x := fun x hx => by rw [hI1, u2_c hx, u2_c hx, u2_c hx]
        have i0 : ∀ x, x ≠ 0 → (x < 15 ∨ 28 < x) → I1 x = I x := fun x h1 h2 => by rw [i4 x h1, f4 x h2]
        have z01 : I1 0 1 = 0 := by rw [hI1, u2_ne (by omega), u2_at]
        have z02 : I1 0 2 = pl7 R.2 := by rw [hI1, u2_ne (by omega), u2_ne (by omega), u2_at, r28]
        have z03 : I1 0 3 = I 0 3 + 1 := by rw [hI1, u2_at, u2_ne (by omega), u2_ne (by omega), f4 0 (by omega)]
        have z0r : ∀ j, j ≠ 1 → j ≠ 2 → j ≠ 3 → I1 0 j = I 0 j := fun j h1 h2 h3 => by rw [hI1, u2_ne (by omega), u2_ne (by omega), u2_ne (by omega), f4 0 (by omega)]
        obtain ⟨K, J', sK, dK, fK, k0, k2, kr, kJ, eM⟩ := hM I1 (jL (.inl (nI R.2.1)) J) (i0 310 (by omega) (by omega)) (i0 311 (by omega) (by omega))
        obtain ⟨I2, hI2⟩ : ∃ I2, I2 = upd2 K 312 0 ((K 312 0) + 1) := ⟨_, rfl⟩
        have kk : ∀ x, x ≠ 0 → (x < 15 ∨ 28 < x) → x ≠ 310 → x ≠ 312 → x ≠ 314 → x ≠ 316 → I2 x = I x := fun x h1 h2 h3 h4 h5 h6 => by rw [hI2, u2_c h4, fK x h3 h5 h6, i0 x h1 h2]
        have k310 : I2 310 = K 310 := by rw [hI2, u2_c (by decide)]
        have jj : ∀ j, (11 < j ∧ j < 16) ∨ 18 < j → I2 310 j = I 310 j := fun j hj => by rw [k310, kr j hj, i0 310 (by omega) (by omega)]
        have k00 : I2 0 = I1 0 := by rw [hI2, u2_c (by decide), fK 0 (by decide) (by decide) (by decide)]
        have k3120 : I2 312 0 = I 312 0 + 1 := by rw [hI2, u2_at, fK 312 (by decide) (by decide) (by decide), i0 312 (by omega) (by omega)]
        have k312 : ∀ j, j ≠ 0 → I2 312 j = I 312 j := fun j hj => by rw [hI2, u2_ne (by omega), fK 312 (by decide) (by decide) (by decide), i0 312 (by omega) (by omega)]
        refine ⟨.inl (nI R.2.1), I1, nI R.2.1, I2, J', eC, fun E h => (by cases h), ?_, ?_, fun v h => (Sum.inl.inj h).symm, by rw [kJ], ⟨ν, σ, ks, vs, hn, g, ?_, ?_, c2.eq (kk _ (by omega) (by omega) (by omega) (by omega) (by omega) (by omega)) (kk _ (by omega) (by omega) (by omega) (by omega) (by omega) (by omega)) (kk _ (by omega) (by omega) (by omega) (by omega) (by omega) (by omega)), m2.c (kk _ (by omega) (by omega) (by omega) (by omega) (by omega) (by omega)), ⟨ac.1, ac.2.1, ac.2.2.1.fr (fun x q1 q2 => kk x (by omega) (by omega) (by omega) (by omega) (by omega) (by omega)), Rows.fr hn ac.2.1 ac.2.2.2 (kk _ (by omega) (by omega) (by omega) (by omega) (by omega) (by omega)) (jj _ (by omega))⟩, ?_, ?_, ?_, ?_⟩, ?_⟩
        · rw [eM, m_good0 sK hS, ob_some, if_pos rfl, show (0 : Int32).toNatClampNeg = 0 from rfl, ← hI2, nm_n, k310, sK.2.2.1]
        · show _ = (0 : Int32)
          rw [k310, k0]
        · exact ⟨by rw [kk 2 (by omega) (by omega) (by omega) (by omega) (by omega) (by omega)]; exact c1.1, by rw [kk 2 (by omega) (by omega) (by omega) (by omega) (by omega) (by omega)]; exact c1.2.1, by rw [kk 2 (by omega) (by omega) (by omega) (by omega) (by omega) (by omega)]; exact c1.2.2.1, fun l hl j hj => by rw [kk _ (by omega) (by omega) (by omega) (by omega) (by omega) (by omega)]; exact c1.2.2.2.1 l hl j hj, fun l hl j hj => by rw [kk _ (by omega) (by omega) (by omega) (by omega) (by omega) (by omega)]; exact c1.2.2.2.2 l hl j hj⟩
        · exact ⟨by rw [jj _ (by omega)]; exact m1.1, by rw [jj _ (by omega)]; exact m1.2.1, by rw [jj _ (by omega)]; exact m1.2.2.1, by rw [kk 313 (by omega) (by omega) (by omega) (by omega) (by omega) (by omega)]; exact m1.2.2.2.1, by rw [kk 315 (by omega) (by omega) (by omega) (by omega) (by omega) (by omega)]; exact m1.2.2.2.2⟩
        · obtain ⟨h1, h2, h3, h4, h5⟩ := sg
          exact ⟨h1, h2, by rw [kk 173 (by omega) (by omega) (by omega) (by omega) (by omega) (by omega)]; exact h3, by rw [jj _ (by omega)]; exact h4, fun j hj k hk => by rw [kk _ (by omega) (by omega) (by omega) (by omega) (by omega) (by omega), kk 333 (by omega) (by omega) (by omega) (by omega) (by omega) (by omega)]; exact h5 j hj k hk⟩
        · obtain ⟨i1, i2⟩ := im
          have r016 : I2 0 16 = I 0 16 := by rw [k00, z0r 16 (by decide) (by decide) (by decide)]
          refine ⟨by rw [jj _ (by omega), r016]; exact i1, ?_⟩
          rw [r016]
          rcases i2 with i2 | ⟨i2, σi, ki, vi, gi, ci, mi, ai, si⟩
          · exact Or.inl i2
          · refine Or.inr ⟨i2, σi, ki, vi, gi, ci.eq (kk _ (by omega) (by omega) (by omega) (by omega) (by omega) (by omega)) (kk _ (by omega) (by omega) (by omega) (by omega) (by omega) (by omega)) (kk _ (by omega) (by omega) (by omega) (by omega) (by omega) (by omega)), mi.c (kk _ (by omega) (by omega) (by omega) (by omega) (by omega) (by omega)), ?_, ?_⟩
            · obtain ⟨h1, h2, ⟨f, q1, q2, q3, q4⟩, w1, w2⟩ := ai
              exact ⟨h1, h2, ⟨f, q1, by rw [kk 182 (by omega) (by omega) (by omega) (by omega) (by omega) (by omega)]; exact q2, by rw [kk 182 (by omega) (by omega) (by omega) (by omega) (by omega) (by omega)]; exact q3, fun j hj => (q4 j hj).eq (kk _ (by omega) (by omega) (by omega) (by omega) (by omega) (by omega)) (kk _ (by omega) (by omega) (by omega) (by omega) (by omega) (by omega)) (kk _ (by omega) (by omega) (by omega) (by omega) (by omega) (by omega))⟩, by rw [jj _ (by omega)]; exact w1, fun j hj => (w2 j hj).c (kk _ (by omega) (by omega) (by omega) (by omega) (by omega) (by omega))⟩
            · obtain ⟨h1, h2, h3, h4, h5⟩ := si
              exact ⟨h1, h2, by rw [kk 304 (by omega) (by omega) (by omega) (by omega) (by omega) (by omega)]; exact h3, by rw [jj _ (by omega)]; exact h4, fun j hj k hk => by rw [kk _ (by omega) (by omega) (by omega) (by omega) (by omega) (by omega), kk 336 (by omega) (by omega) (by omega) (by omega) (by omega) (by omega)]; exact h5 j hj k hk⟩
        · exact ⟨0, Nat.zero_le _, by rw [k00, z01]; rfl, by rw [k310, k2]; rfl, fun j hj => absurd hj (Nat.not_lt_zero _)⟩
        · unfold Ctr
          rw [k310, sK.2.2.2.2.1, k00, z02, z03, z0r 4 (by decide) (by decide) (by decide), z0r 5 (by decide) (by decide) (by decide), k3120, k312 1 (by decide), k312 2 (by decide), ct.2.1]
          exact ⟨rfl, rfl, ct.2.2⟩
        · obtain ⟨mm, q1, q2, q3⟩ := mv
          exact ⟨mm, by omega, by rw [kk 43 (by omega) (by omega) (by omega) (by omega) (by omega) (by omega)]; exact q2, fun s hs => by rw [kk 49 (by omega) (by omega) (by omega) (by omega) (by omega) (by omega)]; exact q3 s hs⟩
    · refine refused ?_ ?_
      · unfold mX10_network
        rw [if_neg (nI_pos (by omega)), t2, if_neg (nI_ge (by omega) (by omega))]
      · rw [if_neg (nI_pos (by omega)), u2_ne (by omega), t3, if_pos (nI_lt (by omega) (by omega))]
end SNet
