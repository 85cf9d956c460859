/-! fault, pool, link, forget, see -/
section Simple
variable {ν : Nt} {σ : St} {I : gI} {N u b : Nat}
theorem or_z (v : Int32) : v ||| 0 = v := b_ext fun i hi => by rw [b_or, b_0, Bool.or_false]
theorem c_on (hn : WfN ν) (hI : NetC ν I) (hs : CS ν u σ I) (hw : WfW ν σ) (hN : 100 ≤ N) {l : Nat} (hl : l < ν.ln) : mX2_tunnelsOn N u (nI l) I = some (bm (fun t => decide (l ∈ σ.w t)) ν.tn) := by
  have htn := hn.2.2.2.1
  have hln := hn.2.2.1
  obtain ⟨x, hP, e⟩ := loopP (F := fun n v i => mX2_tunnelsOn_4 u (nI l) I n v i) (b := ν.tn) (out := id)
    (P := fun k v => v = bm (fun t => decide (l ∈ σ.w t)) k)
    (fun n v _ => by
      show mX2_tunnelsOn_4 u (nI l) I (n + 1) v (nI ν.tn) = some v
      rw [mX2_tunnelsOn_4, hI.2.2.1, if_pos (nI_le (Nat.le_refl _) (by omega))])
    (fun n k v hk hP => by
      refine ⟨_, ?_, rfl⟩
      show mX2_tunnelsOn_4 u (nI l) I (n + 1) v (nI k) = mX2_tunnelsOn_4 u (nI l) I n _ (nI (k + 1))
      have z : ∀ j, j < 32 → (0 : Int32) <<< (nI j &&& 31) = 0 := by decide +kernel
      rw [mX2_tunnelsOn_4, hI.2.2.1, if_neg (nI_ge hk (by omega)), ck_n (by omega) (by decide), nI_clamp (by omega), (hs.2 k hk).1, cbv (by omega), wb_t hn hw hk (by omega), nm_n, nI_1, bm, hP]
      by_cases h : l ∈ σ.w k
      · simp [h]
      · simp only [h, decide_false, Bool.false_eq_true, if_false]
        rw [z k (by omega), or_z])
    N 0 0 (Nat.zero_le _) (by omega) rfl
  unfold mX2_tunnelsOn
  rw [show mX2_tunnelsOn_4 u (nI l) I N 0 0 = some x from e, ob_some, hP]
theorem m_on (hn : WfN ν) (hI : NetM ν I) (hs : MS ν 317 0 σ I) (hw : WfW ν σ) (hN : 100 ≤ N) {l : Nat} (hl : l < ν.ln) : mX11_onLink N (nI l) I = some (bm (fun t => decide (l ∈ σ.w t)) ν.tn) := by
  have htn := hn.2.2.2.1
  have hln := hn.2.2.1
  obtain ⟨x, hP, e⟩ := loopP (F := fun n v i => mX11_onLink_4 N (nI l) I n v i) (b := ν.tn) (out := id)
    (P := fun k v => v = bm (fun t => decide (l ∈ σ.w t)) k)
    (fun n v _ => by
      show mX11_onLink_4 N (nI l) I (n + 1) v (nI ν.tn) = some v
      rw [mX11_onLink_4, hI.2.2.1, if_pos (nI_le (Nat.le_refl _) (by omega))])
    (fun n k v hk hP => by
      refine ⟨_, ?_, rfl⟩
      show mX11_onLink_4 N (nI l) I (n + 1) v (nI k) = mX11_onLink_4 N (nI l) I n _ (nI (k + 1))
      have d : mX11_wayBits N 0 (nI k) I = some (wb (σ.w k)) := m_wb (b := 0) hn hs hw (by omega) hN hk
      rw [mX11_onLink_4, hI.2.2.1, if_neg (nI_ge hk (by omega)), d, ob_some, nI_1, bm, hP, or_z]
      by_cases h : l ∈ σ.w k
      · rw [if_pos ((mb1 (by omega) _).mpr (by rw [wb_t hn hw hk (by omega)]; simp [h]))]; simp [h]
      · rw [if_neg (fun e => by rw [mb1 (by omega), wb_t hn hw hk (by omega)] at e; simp [h] at e)]; simp [h])
    N 0 0 (Nat.zero_le _) (by omega) rfl
  unfold mX11_onLink
  rw [show mX11_onLink_4 N (nI l) I N 0 0 = some x from e, ob_some, hP]
theorem c_taken (hn : WfN ν) (hI : NetC ν I) (hs : CS ν u σ I) (hw : WfW ν σ) (hN : 100 ≤ N) {l : Nat} (hl : l < ν.ln) : mX2_taken N u (nI l) I = some (zI ((ν.L l 3 : Int) - pl ν σ 99 l 7)) := by
  have hln := hn.2.2.1
  unfold mX2_taken
  rw [ck_n (by omega) (by decide), show (7 : Int32) = nI 7 from rfl, c_pool hn hI hs hw hN (Or.inr ⟨rfl, show 9 ≤ 99 by omega⟩) hl (Nat.le_refl 7), ob_some, nI_clamp (by omega), show I 6 l = nI (ν.L l 3) from hI.2.2.2.1 l hl 3 (by decide), ← zI_nat, zI_sub]
end Simple
section Steps3
variable {N : Nat}
theorem s_fault : St_fault N Inv := by
  intro c I J hc hInv
  obtain ⟨⟨ν, σ, ks, vs, hP⟩, mv⟩ := id hInv
  refine ⟨I 0 2, upd2 I 310 0 0, rfl, ?_, hInv.sm Sm.rf.u0⟩
  unfold mX11_fault
  rw [u2_ne (by omega), hP.2.2.2.2.2.2.2.2.2.2.1]
theorem s_forget : St_forget N Inv := by
  intro c I J hc hInv
  obtain ⟨⟨ν, σ, ks, vs, hP⟩, mv⟩ := id hInv
  obtain ⟨hn, g, c1, m1, c2, m2, ac, sg, im, tp, ct⟩ := id hP
  refine ⟨upd2 I 173 5 0, upd2 (upd2 (upd2 I 173 5 0) 310 0 0) 310 45 0, rfl, rfl, ?_⟩
  have key : ∀ c j, ¬ (c = 173 ∧ j = 5) → ¬ (c = 310 ∧ (j = 0 ∨ j = 45)) → (upd2 (upd2 (upd2 I 173 5 0) 310 0 0) 310 45 0) c j = I c j := by
    intro c j h1 h2
    rw [u2_ne (by omega), u2_ne (by omega), u2_ne (by omega)]
  have kc : ∀ c, c ≠ 173 → c ≠ 310 → (upd2 (upd2 (upd2 I 173 5 0) 310 0 0) 310 45 0) c = I c := by
    intro c h1 h2
    funext j
    exact key c j (by omega) (by omega)
  generalize hX : upd2 (upd2 (upd2 I 173 5 0) 310 0 0) 310 45 0 = X at key kc
  have x5 : X 173 5 = 0 := by rw [← hX, u2_c (by decide), u2_c (by decide), u2_at]
  have x45 : X 310 45 = 0 := by rw [← hX, u2_at]
  refine ⟨⟨ν, σ, ks, [], hn, g, c1.fr (X := [173, 310]) (fun c hc => kc c (by simp at hc; omega) (by simp at hc; omega)) (by simp), ?_, c2.eq (kc _ (by omega) (by omega)) (kc _ (by omega) (by omega)) (kc _ (by omega) (by omega)), m2.c (kc _ (by omega) (by omega)), ⟨ac.1, ac.2.1, ac.2.2.1.fr (fun c h1 h2 => kc c (by omega) (by omega)), Rows.fr hn ac.2.1 ac.2.2.2 (kc _ (by omega) (by omega)) (key _ _ (by omega) (by omega))⟩, ⟨by simp, fun v hv => (by cases hv), x5, x45, fun j hj => (by cases hj)⟩, ?_, ?_, ?_⟩, ?_⟩
  · exact ⟨by rw [key _ _ (by omega) (by omega)]; exact m1.1, by rw [key _ _ (by omega) (by omega)]; exact m1.2.1, by rw [key _ _ (by omega) (by omega)]; exact m1.2.2.1, by rw [kc 313 (by omega) (by omega)]; exact m1.2.2.2.1, by rw [kc 315 (by omega) (by omega)]; exact m1.2.2.2.2⟩
  · obtain ⟨i1, i2⟩ := im
    refine ⟨by rw [key _ _ (by omega) (by omega), key 0 16 (by omega) (by omega)]; exact i1, ?_⟩
    rw [key 0 16 (by omega) (by omega)]
    rcases i2 with i2 | ⟨i2, σi, ki, vi, gi, ci, mi, ai, si⟩
    · exact Or.inl i2
    · refine Or.inr ⟨i2, σi, ki, vi, gi, ci.eq (kc _ (by omega) (by omega)) (kc _ (by omega) (by omega)) (kc _ (by omega) (by omega)), mi.c (kc _ (by omega) (by omega)), ?_, ?_⟩
      · obtain ⟨h1, h2, ⟨f, f1, f2, f3, f4⟩, r1, r2⟩ := ai
        refine ⟨h1, h2, ⟨f, f1, by rw [kc 182 (by omega) (by omega)]; exact f2, by rw [kc 182 (by omega) (by omega)]; exact f3, fun j hj => (f4 j hj).eq (kc _ (by omega) (by omega)) (kc _ (by omega) (by omega)) (kc _ (by omega) (by omega))⟩, by rw [key _ _ (by omega) (by omega)]; exact r1, fun j hj => (r2 j hj).c (kc _ (by omega) (by omega))⟩
      · obtain ⟨h1, h2, h3, h4, h5⟩ := si
        exact ⟨h1, h2, by rw [kc 304 (by omega) (by omega)]; exact h3, by rw [key _ _ (by omega) (by omega)]; exact h4, fun j hj k hk => by rw [kc _ (by omega) (by omega), kc 336 (by omega) (by omega)]; exact h5 j hj k hk⟩
  · obtain ⟨n, t1, t2, t3, t4⟩ := tp
    exact ⟨n, t1, by rw [kc 0 (by omega) (by omega)]; exact t2, by rw [key _ _ (by omega) (by omega)]; exact t3, fun j hj => by rw [kc 311 (by omega) (by omega), kc 1 (by omega) (by omega)]; exact t4 j hj⟩
  · unfold Ctr
    rw [key 310 4 (by omega) (by omega), kc 0 (by omega) (by omega), kc 312 (by omega) (by omega)]
    exact ct
  · obtain ⟨m, h1, h2, h3⟩ := mv
    exact ⟨m, by omega, by rw [kc 43 (by omega) (by omega)]; exact h2, fun s hs => by rw [kc 49 (by omega) (by omega)]; exact h3 s hs⟩
theorem s_pool (hN : 100000000000 ≤ N) : St_pool N Inv := by
  intro c I J a1 a2 hc hInv
  obtain ⟨⟨ν, σ, ks, vs, hP⟩, mv⟩ := id hInv
  obtain ⟨hn, g, c1, m1, c2, m2, ac, sg, im, tp, ct⟩ := id hP
  have hln := hn.2.2.1
  have hww := g.wf hn
  have s0 : ∀ {K : gI}, Sm K (upd2 K 310 0 0) := Sm.rf.u0
  rcases lnk_ck hn a1 with ⟨l, hl, rfl, eC, eM⟩ | ⟨eC, eM⟩
  · have baseM : ∀ x, mX11_within a2 0 7 (upd2 I 310 0 0) = some x → mX11_pool N (nI l) a2 I = Option.bind (mX11_right x 2 (upd2 I 310 0 0)) (fun (r7, I8) => if r7 = 0 then (some (0, I8)) else (Option.bind (mX11_poolAt N 0 (nI l) a2 I8) (fun r11 => some (r11, I8)))) := by
      intro x hx
      unfold mX11_pool
      rw [eM _ (m1.sm s0) u2_at, ob_some]
      dsimp only
      rw [if_neg (by decide), hx, ob_some]
    rcases wi_ck (lo := 0) (hi := 7) (by omega) (by omega) a2 with ⟨p, -, hp, rfl, eW⟩ | ⟨hno, eW⟩
    · have q := m_pool (N := N) (b := 0) (p := p) hn (m1.sm s0) (m2.c (u2_c (by decide)) : MS ν 317 0 σ (upd2 I 310 0 0)) hww (by omega) (by omega) hl hp
      refine ⟨.inl (zI (pl ν σ 99 l p)), zI (pl ν σ 99 l p), upd2 I 310 0 0, ?_, (fun E h => by cases h), ?_, u2_at, (fun v h => by cases h; rfl), hInv.sm s0⟩
      · unfold mX10_pool mX10_checkPriority mX10_isPriority
        rw [eC I c1, lb_l, if_neg (nI_pos (by omega)), show (7 : Int32) = nI 7 from rfl, if_neg (nI_nlt hp (by omega)), ob_some, if_neg (by decide), lb_l, c_pool hn c1 c2 hww (by omega) (Or.inr ⟨rfl, show 9 ≤ 99 by omega⟩) hl hp, ob_some]
      · rw [baseM 1 (eW _), m_right1 u2_at, ob_some]
        dsimp only
        rw [if_neg (by decide), show mX11_poolAt N 0 (nI l) (nI p) (upd2 I 310 0 0) = _ from q, ob_some]
    · refine ⟨.inr xnA, 0, upd2 (upd2 I 310 0 0) 310 0 2, ?_, (fun E h => by cases h; exact Or.inr rfl), ?_, u2_at.trans (by decide), (fun v h => by cases h), hInv.sm s0.u0⟩
      · unfold mX10_pool mX10_checkPriority mX10_isPriority
        rw [eC I c1, lb_l]
        rcases i_nn a2 with h | ⟨n, h1, rfl⟩
        · rw [if_pos h]; rfl
        · by_cases h2 : n ≤ 7
          · exact absurd rfl (hno n (by omega) h2)
          · rw [if_neg (nI_pos (by omega)), show (7 : Int32) = nI 7 from rfl, if_pos (nI_lt (by omega) (by omega))]; rfl
      · rw [baseM 0 (eW _), m_right0 u2_at (by decide), ob_some]
        dsimp only
        rw [if_pos rfl]
  · refine ⟨.inr xnN, 0, upd2 (upd2 I 310 0 0) 310 0 1, ?_, (fun E h => by cases h; exact Or.inl rfl), ?_, u2_at.trans (by decide), (fun v h => by cases h), hInv.sm s0.u0⟩
    · unfold mX10_pool
      rw [eC I c1, lb_r]
    · unfold mX11_pool
      rw [eM _ (m1.sm s0) u2_at, ob_some]
      dsimp only
      rw [if_pos rfl]
theorem s_link (hN : 100000000000 ≤ N) : St_link N Inv := by
  intro c I J a1 a2 hc hInv
  obtain ⟨⟨ν, σ, ks, vs, hP⟩, mv⟩ := id hInv
  obtain ⟨hn, g, c1, m1, c2, m2, ac, sg, im, tp, ct⟩ := id hP
  have hln := hn.2.2.1
  have hww := g.wf hn
  have s0 : ∀ {K : gI}, Sm K (upd2 K 310 0 0) := Sm.rf.u0
  have m1' : NetM ν (upd2 I 310 0 0) := m1.sm s0
  have m2' : MS ν 317 0 σ (upd2 I 310 0 0) := m2.c (u2_c (by decide))
  rcases lnk_ck hn a1 with ⟨l, hl, rfl, eC, eM⟩ | ⟨eC, eM⟩
  · have baseM : ∀ x, mX11_within a2 0 7 (upd2 I 310 0 0) = some x → mX11_link N (nI l) a2 I = Option.bind (Option.bind (mX11_right x 1 (upd2 I 310 0 0)) (fun (r3, I4) => zo r3 (some (r3, I4)))) (fun (r5, I6) => if r5 = 0 then (some (0, I6)) else (if a2 = 5 then (Option.bind (mX11_isUp 0 (nI l) I6) (fun r10 => if r10 = 0 then (some (0, I6)) else (some (1, I6)))) else (if a2 = 6 then (Option.bind (mX11_takenAt N 0 (nI l) I6) (fun r14 => some (r14, I6))) else (if a2 = 7 then (Option.bind (mX11_onLink N (nI l) I6) (fun r17 => some (r17, I6))) else (ck ((5 * nI l) + a2) 80 (some (I6 313 ((5 * nI l) + a2).toNatClampNeg, I6))))))) := by
      intro x hx
      unfold mX11_link mX11_isWhat
      rw [eM _ m1' u2_at, ob_some]
      dsimp only
      rw [if_neg (by decide), hx, ob_some]
    rcases wi_ck (lo := 0) (hi := 7) (by omega) (by omega) a2 with ⟨p, -, hp, rfl, eW⟩ | ⟨hno, eW⟩
    · have fin : ∀ r, mX10_link N (nI l) (nI p) I = some (.inl r) → (if nI p = 5 then (Option.bind (mX11_isUp 0 (nI l) (upd2 I 310 0 0)) (fun r10 => if r10 = 0 then (some (0, (upd2 I 310 0 0))) else (some (1, (upd2 I 310 0 0))))) else (if nI p = 6 then (Option.bind (mX11_takenAt N 0 (nI l) (upd2 I 310 0 0)) (fun r14 => some (r14, (upd2 I 310 0 0)))) else (if nI p = 7 then (Option.bind (mX11_onLink N (nI l) (upd2 I 310 0 0)) (fun r17 => some (r17, (upd2 I 310 0 0)))) else (ck ((5 * nI l) + nI p) 80 (some ((upd2 I 310 0 0) 313 ((5 * nI l) + nI p).toNatClampNeg, (upd2 I 310 0 0))))))) = some (r, upd2 I 310 0 0) → ∃ (rv : Int32 ⊕ String) (bb : Int32) (I2 : gI), mX10_link N (nI l) (nI p) I = some rv ∧ (∀ E, rv = .inr E → E = xnN) ∧ mX11_link N (nI l) (nI p) I = some (bb, I2) ∧ I2 310 0 = kL1 rv ∧ (∀ v, rv = .inl v → v = bb) ∧ Inv (c + 1) I2 := by
        intro r h1 h2
        refine ⟨.inl r, r, upd2 I 310 0 0, h1, (fun E h => by cases h), ?_, u2_at, (fun v h => by cases h; rfl), hInv.sm s0⟩
        rw [baseM 1 (eW _), m_right1 u2_at, ob_some]
        dsimp only
        rw [zo_1, ob_some]
        dsimp only
        rw [if_neg (by decide), h2]
      have ec : mX10_link N (nI l) (nI p) I = if nI p = 0 then (ck (nI l) 16 (some (.inl (I 3 (nI l).toNatClampNeg)))) else (if nI p = 1 then (ck (nI l) 16 (some (.inl (I 4 (nI l).toNatClampNeg)))) else (if nI p = 2 then (ck (nI l) 16 (some (.inl (I 5 (nI l).toNatClampNeg)))) else (if nI p = 3 then (ck (nI l) 16 (some (.inl (I 6 (nI l).toNatClampNeg)))) else (if nI p = 4 then (ck (nI l) 16 (some (.inl (I 7 (nI l).toNatClampNeg)))) else (if nI p = 5 then (some (.inl ((ushr (I 36 2) (nI l)) &&& 1))) else (if nI p = 6 then (Option.bind (mX2_taken N 36 (nI l) I) (fun r15 => some (.inl r15))) else (if nI p = 7 then (Option.bind (mX2_tunnelsOn N 36 (nI l) I) (fun r18 => some (.inl r18))) else (some (.inr xnN))))))))) := by
        unfold mX10_link
        rw [eC I c1, lb_l]
      have hcases : p = 0 ∨ p = 1 ∨ p = 2 ∨ p = 3 ∨ p = 4 ∨ p = 5 ∨ p = 6 ∨ p = 7 := by omega
      rcases hcases with rfl | rfl | rfl | rfl | rfl | rfl | rfl | rfl
      · refine fin (nI (ν.L l 0)) ?_ ?_
        · rw [ec, if_pos (by decide), ck_n (by omega) (by decide), nI_clamp (by omega), show I 3 l = nI (ν.L l 0) from c1.2.2.2.1 l hl 0 (by decide)]
        · rw [if_neg (by decide), if_neg (by decide), if_neg (by decide), n5, ck_n (by omega) (by decide), nI_clamp (by omega), m1'.2.2.2.1 l hl 0 (by decide)]
      · refine fin (nI (ν.L l 1)) ?_ ?_
        · rw [ec, if_neg (by decide), if_pos (by decide), ck_n (by omega) (by decide), nI_clamp (by omega), show I 4 l = nI (ν.L l 1) from c1.2.2.2.1 l hl 1 (by decide)]
        · rw [if_neg (by decide), if_neg (by decide), if_neg (by decide), n5, ck_n (by omega) (by decide), nI_clamp (by omega), m1'.2.2.2.1 l hl 1 (by decide)]
      · refine fin (nI (ν.L l 2)) ?_ ?_
        · rw [ec, if_neg (by decide), if_neg (by decide), if_pos (by decide), ck_n (by omega) (by decide), nI_clamp (by omega), show I 5 l = nI (ν.L l 2) from c1.2.2.2.1 l hl 2 (by decide)]
        · rw [if_neg (by decide), if_neg (by decide), if_neg (by decide), n5, ck_n (by omega) (by decide), nI_clamp (by omega), m1'.2.2.2.1 l hl 2 (by decide)]
      · refine fin (nI (ν.L l 3)) ?_ ?_
        · rw [ec, if_neg (by decide), if_neg (by decide), if_neg (by decide), if_pos (by decide), ck_n (by omega) (by decide), nI_clamp (by omega), show I 6 l = nI (ν.L l 3) from c1.2.2.2.1 l hl 3 (by decide)]
        · rw [if_neg (by decide), if_neg (by decide), if_neg (by decide), n5, ck_n (by omega) (by decide), nI_clamp (by omega), m1'.2.2.2.1 l hl 3 (by decide)]
      · refine fin (nI (ν.L l 4)) ?_ ?_
        · rw [ec, if_neg (by decide), if_neg (by decide), if_neg (by decide), if_neg (by decide), if_pos (by decide), ck_n (by omega) (by decide), nI_clamp (by omega), show I 7 l = nI (ν.L l 4) from c1.2.2.2.1 l hl 4 (by decide)]
        · rw [if_neg (by decide), if_neg (by decide), if_neg (by decide), n5, ck_n (by omega) (by decide), nI_clamp (by omega), m1'.2.2.2.1 l hl 4 (by decide)]
      · refine fin (if bt σ.up l = true then 1 else 0) ?_ ?_
        · rw [ec, if_neg (by decide), if_neg (by decide), if_neg (by decide), if_neg (by decide), if_neg (by decide), if_pos (by decide), show I 36 2 = σ.up from c2.1, cbv (by omega)]
        · rw [if_pos (by decide), show mX11_isUp 0 (nI l) (upd2 I 310 0 0) = _ from m_up (b := 0) m2' (by omega) (by omega), ob_some]
          cases h : bt σ.up l with
          | true => rfl
          | false => rfl
      · refine fin (zI ((ν.L l 3 : Int) - pl ν σ 99 l 7)) ?_ ?_
        · rw [ec, if_neg (by decide), if_neg (by decide), if_neg (by decide), if_neg (by decide), if_neg (by decide), if_neg (by decide), if_pos (by decide), c_taken hn c1 c2 hww (by omega) hl, ob_some]
        · rw [if_neg (by decide), if_pos (by decide), show mX11_takenAt N 0 (nI l) (upd2 I 310 0 0) = _ from m_taken (b := 0) hn m1' m2' hww (by omega) (by omega) hl, ob_some]
      · refine fin (bm (fun t => decide (l ∈ σ.w t)) ν.tn) ?_ ?_
        · rw [ec, if_neg (by decide), if_neg (by decide), if_neg (by decide), if_neg (by decide), if_neg (by decide), if_neg (by decide), if_neg (by decide), if_pos (by decide), c_on hn c1 c2 hww (by omega) hl, ob_some]
        · rw [if_neg (by decide), if_neg (by decide), if_pos (by decide), m_on hn m1' m2' hww (by omega) hl, ob_some]
    · refine ⟨.inr xnN, 0, upd2 (upd2 I 310 0 0) 310 0 1, ?_, (fun E h => by cases h; rfl), ?_, u2_at, (fun v h => by cases h), hInv.sm s0.u0⟩
      · unfold mX10_link
        have ne : ∀ k, k ≤ 7 → ¬ a2 = nI k := fun k hk => hno k (by omega) hk
        rw [eC I c1, lb_l, if_neg (show ¬ a2 = 0 from ne 0 (by omega)), if_neg (show ¬ a2 = 1 from ne 1 (by omega)), if_neg (show ¬ a2 = 2 from ne 2 (by omega)), if_neg (show ¬ a2 = 3 from ne 3 (by omega)), if_neg (show ¬ a2 = 4 from ne 4 (by omega)), if_neg (show ¬ a2 = 5 from ne 5 (by omega)), if_neg (show ¬ a2 = 6 from ne 6 (by omega)), if_neg (show ¬ a2 = 7 from ne 7 (by omega))]
      · rw [baseM 0 (eW _), m_right0 u2_at (by decide), ob_some]
        dsimp only
        rw [zo_0, ob_some]
        dsimp only
        rw [if_pos rfl]
  · refine ⟨.inr xnN, 0, upd2 (upd2 I 310 0 0) 310 0 1, ?_, (fun E h => by cases h; rfl), ?_, u2_at, (fun v h => by cases h), hInv.sm s0.u0⟩
    · unfold mX10_link
      rw [eC I c1, lb_r]
    · unfold mX11_link
      rw [eM _ (m1.sm s0) u2_at, ob_some]
      dsimp only
      rw [if_pos rfl]
end Steps3
