/-! widest, room, distance -/
section WideS
variable {N : Nat}
set_option maxHeartbeats 1000000 in
theorem s_room (hN : 100000000000 ≤ N) : St_room N Inv := by
  intro c I J a1 hc hInv
  obtain ⟨⟨ν, σ, ks, vs, hP⟩, mv⟩ := id hInv
  obtain ⟨hn, g, c1, m1, c2, m2, ac, sg, im, tp, ct⟩ := id hP
  have htn := hn.2.2.2.1
  have hnn := hn.2.1
  have hln := hn.2.2.1
  have hww := g.wf hn
  have s0 : ∀ {K : gI}, Sm K (upd2 K 310 0 0) := Sm.rf.u0
  rcases tun_ck hn a1 with ⟨t, ht, rfl, eC, eM⟩ | ⟨eC, eM⟩
  · have hT := hn.2.2.2.2.2 t ht
    obtain ⟨I4, e4, f4, w4⟩ := c_show (N := N) (u := 36) (a := nI t) (x := t) (p := ν.T t 3) hn c1 c2 (by omega) hww (by omega) (Or.inl ⟨rfl, by omega⟩) hT.2.2.2.2.2.1
    have c4 := c1.fr f4 (by simp)
    have cs4 := c2.fr f4 (by simp) (by simp) (by simp)
    obtain ⟨x, ex, hx⟩ := c_open (N := N) (u := 36) (σ := σ) hn c4 cs4.1 (by omega) ht
    have hwd : ∀ l, l < ν.ln → -1000 ≤ pl ν σ t l (ν.T t 3) ∧ pl ν σ t l (ν.T t 3) ≤ 1000 := fun l hl => by have := pl_sml (x := t) (p := ν.T t 3) hn hww hl; omega
    obtain ⟨I9, e9, f9⟩ := c_wide (N := N) (x := x) (go := opn ν σ t) (wd := fun l => pl ν σ t l (ν.T t 3)) (a := ν.T t 0) (z := ν.T t 1) (h := ν.T t 6) hn c4 (by omega) (by omega) hT.2.2.2.2.2.2.2.2.2 (fun l hl => by rw [hx l (by omega)]; simp [hl]) hwd (by omega) w4
    have hb := Wm_bd (ν := ν) (go := opn ν σ t) (wd := fun l => pl ν σ t l (ν.T t 3)) (a := ν.T t 0) (ν.T t 6) (ν.T t 1)
    have h99 := Wm_99 (ν := ν) (go := opn ν σ t) (wd := fun l => pl ν σ t l (ν.T t 3)) (a := ν.T t 0) (k := ν.T t 6) (n := ν.T t 1) (fun l hl => by have := pl_sml (x := t) (p := ν.T t 3) hn hww hl; show pl ν σ t l (ν.T t 3) ≤ 99; omega) (fun h => hT.2.2.1 h.symm)
    obtain ⟨V, hV⟩ : ∃ V : Nat, Wm ν (opn ν σ t) (fun l => pl ν σ t l (ν.T t 3)) (ν.T t 0) (ν.T t 6) (ν.T t 1) = (V : Int) := ⟨_, (Int.toNat_of_nonneg hb.1).symm⟩
    have fA : Fr [31, 33] I I9 := (f4.mono (by simp)).tr (f9.mono (by simp))
    have sm9 : Sm I I9 := Sm.fr fA (by simp [sc])
    have m9 := m1.sm sm9
    have m9' : NetM ν (upd2 I9 310 0 0) := m9.sm s0
    have h9' : MS ν 317 0 σ (upd2 I9 310 0 0) := (m2.c (fA 317 (by simp)) : MS ν 317 0 σ I9).c (u2_c (by decide))
    obtain ⟨I8, f8, e8⟩ := m_r18 (N := N) (I := upd2 I9 310 0 0) (σ := σ) (V := V) hn (fun K f => ⟨m9'.fb f, h9'.c (f.1 317 (by simp))⟩) hww hN ht (fun w h1 h2 => by
      have := Wm_ge (ν := ν) (go := opn ν σ t) (wd := fun l => pl ν σ t l (ν.T t 3)) (a := ν.T t 0) (w := (w : Int)) (by omega) (by omega) (k := ν.T t 6) (n := ν.T t 1)
      rw [hV] at this
      have e : fit ν σ t w (ν.T t 3) = fun l => opn ν σ t l && decide ((w : Int) ≤ pl ν σ t l (ν.T t 3)) := rfl
      rw [e, ← this]
      omega) 99 N (upd2 I9 310 0 0) (by omega) (by omega) (by omega) FB.rf
    refine ⟨.inl (nI V), I9, nI V, I8, ?_, (fun E h => by cases h), ?_, (by rw [f8.2 0 (by simp), u2_at]; rfl), (fun v h => by cases h; rfl), hInv.sm (sm9.tr (s0.tr (Sm.fb f8)))⟩
    · unfold mX10_room
      rw [eC I c1, lb_l, ck_n (by omega) (by decide), nI_clamp (by omega), show I 11 t = nI (ν.T t 3) from c1.2.2.2.2 t ht 3 (by decide), e4, ob_some, ex, ob_some, show I4 8 t = nI (ν.T t 0) from c4.2.2.2.2 t ht 0 (by decide), show I4 9 t = nI (ν.T t 1) from c4.2.2.2.2 t ht 1 (by decide), show I4 14 t = nI (ν.T t 6) from c4.2.2.2.2 t ht 6 (by decide), e9, ob_some, hV, zI_nat]
    · unfold mX11_room
      rw [eM _ m9' u2_at, ob_some]
      dsimp only
      rw [if_neg (show ¬ (1 : Int32) = 0 by decide), show mX11_room_18 N (nI t) N 99 (upd2 I9 310 0 0) = some (nI V, I8) from e8, ob_some]
  · refine ⟨.inr xnN, I, 0, upd2 (upd2 I 310 0 0) 310 0 1, ?_, (fun E h => by cases h; rfl), ?_, u2_at, (fun v h => by cases h), hInv.sm s0.u0⟩
    · unfold mX10_room
      rw [eC I c1, lb_r]
    · unfold mX11_room
      rw [eM _ (m1.sm s0) u2_at, ob_some]
      dsimp only
      rw [if_pos rfl]
set_option maxHeartbeats 1000000 in
theorem s_widest (hN : 100000000000 ≤ N) : St_widest N Inv := by
  intro c I J a1 a2 a3 hc hInv
  obtain ⟨⟨ν, σ, ks, vs, hP⟩, mv⟩ := id hInv
  obtain ⟨hn, g, c1, m1, c2, m2, ac, sg, im, tp, ct⟩ := id hP
  have hnn := hn.2.1
  have hln := hn.2.2.1
  have hww := g.wf hn
  have s0 : ∀ {K : gI}, Sm K (upd2 K 310 0 0) := Sm.rf.u0
  have m1' : NetM ν (upd2 I 310 0 0) := m1.sm s0
  rcases nod_ck hn a1 with ⟨n1, hn1, rfl, eM1⟩ | ⟨b1, eM1⟩
  · rcases nod_ck hn a2 with ⟨n2, hn2, rfl, eM2⟩ | ⟨b2, eM2⟩
    · have en : nI n1 = nI n2 ↔ n1 = n2 := nI_eq (by omega) (by omega)
      have baseM : ∀ (K : gI) x, NetM ν K → (if nI n1 = nI n2 then (some 0) else (Option.bind (mX11_within a3 0 7 (upd2 K 310 0 0)) (fun r11 => if r11 = 0 then (some 0) else (some 1))) : Option (Int32)) = some x → mX11_widest N (nI n1) (nI n2) a3 K = Option.bind (mX11_right x 2 (upd2 K 310 0 0)) (fun (r14, I15) => if r14 = 0 then (some (0, I15)) else (Option.bind (mX11_widest_55 N (nI n1) (nI n2) a3 N 99 I15) (fun (y23, I24) => some (y23, I24)))) := by
        intro K x hK hx
        unfold mX11_widest
        rw [eM1 _ (hK.sm s0) u2_at, ob_some]
        dsimp only
        rw [if_neg (show ¬ (1 : Int32) = 0 by decide), eM2 _ (hK.sm s0) u2_at, ob_some]
        dsimp only
        rw [if_neg (show ¬ (1 : Int32) = 0 by decide), hx, ob_some]
      have bad : (mX10_widest N (nI n1) (nI n2) a3 I = some (.inr xnA, I)) → ((if nI n1 = nI n2 then (some 0) else (Option.bind (mX11_within a3 0 7 (upd2 I 310 0 0)) (fun r11 => if r11 = 0 then (some 0) else (some 1))) : Option (Int32)) = some 0) → ∃ (rv : Int32 ⊕ String) (I1 : gI) (bb : Int32) (I2 : gI), mX10_widest N (nI n1) (nI n2) a3 I = some (rv, I1) ∧ (∀ E, rv = .inr E → E = xnN ∨ E = xnA) ∧ mX11_widest N (nI n1) (nI n2) a3 I1 = some (bb, I2) ∧ I2 310 0 = kL2 rv ∧ (∀ v, rv = .inl v → v = bb) ∧ Inv (c + 1) I2 := by
        intro h1 h2
        refine ⟨.inr xnA, I, 0, upd2 (upd2 I 310 0 0) 310 0 2, h1, (fun E h => by cases h; exact Or.inr rfl), ?_, u2_at.trans (by decide), (fun v h => by cases h), hInv.sm s0.u0⟩
        rw [baseM I 0 m1 h2, m_right0 u2_at (by decide), ob_some]
        dsimp only
        rw [if_pos rfl]
      by_cases h12 : n1 = n2
      · refine bad ?_ (by rw [if_pos (en.mpr h12)])
        unfold mX10_widest mX10_checkUnlike
        rw [c_nod1 hn c1 hn1 hn2, lb_l, if_pos (en.mpr h12), lb_r]
      · have h12' : ¬ nI n1 = nI n2 := fun h => h12 (en.mp h)
        rcases wi_ck (lo := 0) (hi := 7) (by omega) (by omega) a3 with ⟨p, -, hp, rfl, eW⟩ | ⟨hno, eW⟩
        · obtain ⟨I4, e4, f4, w4⟩ := c_show (N := N) (u := 36) (a := -1) (x := 99) (p := p) hn c1 c2 (by omega) hww (by omega) (Or.inr ⟨rfl, by omega⟩) hp
          have c4 := c1.fr f4 (by simp)
          have cs4 := c2.fr f4 (by simp) (by simp) (by simp)
          have hwd : ∀ l, l < ν.ln → -1000 ≤ pl ν σ 99 l p ∧ pl ν σ 99 l p ≤ 1000 := fun l hl => by have := pl_sml (x := 99) (p := p) hn hww hl; omega
          obtain ⟨I9, e9, f9⟩ := c_wide (N := N) (x := σ.up) (go := fun l => bt σ.up l) (wd := fun l => pl ν σ 99 l p) (a := n1) (z := n2) (h := 7) hn c4 (by omega) (by omega) (by omega) (fun l hl => rfl) hwd (by omega) w4
          have hb := Wm_bd (ν := ν) (go := fun l => bt σ.up l) (wd := fun l => pl ν σ 99 l p) (a := n1) 7 n2
          have h99 := Wm_99 (ν := ν) (go := fun l => bt σ.up l) (wd := fun l => pl ν σ 99 l p) (a := n1) (k := 7) (n := n2) (fun l hl => by have := pl_sml (x := 99) (p := p) hn hww hl; show pl ν σ 99 l p ≤ 99; omega) (fun h => h12 h.symm)
          obtain ⟨V, hV⟩ : ∃ V : Nat, Wm ν (fun l => bt σ.up l) (fun l => pl ν σ 99 l p) n1 7 n2 = (V : Int) := ⟨_, (Int.toNat_of_nonneg hb.1).symm⟩
          have fA : Fr [31, 33] I I9 := (f4.mono (by simp)).tr (f9.mono (by simp))
          have sm9 : Sm I I9 := Sm.fr fA (by simp [sc])
          have m9 := m1.sm sm9
          have m9' : NetM ν (upd2 I9 310 0 0) := m9.sm s0
          have h9' : MS ν 317 0 σ (upd2 I9 310 0 0) := (m2.c (fA 317 (by simp)) : MS ν 317 0 σ I9).c (u2_c (by decide))
          obtain ⟨I8, f8, e8⟩ := m_w55 (N := N) (I := upd2 I9 310 0 0) (σ := σ) (V := V) (a := n1) (z := n2) (p := p) hn (fun K f => ⟨m9'.fb f, h9'.c (f.1 317 (by simp))⟩) hww hN hp hn1 hn2 h12 (fun w h1 h2 => by
            have := Wm_ge (ν := ν) (go := fun l => bt σ.up l) (wd := fun l => pl ν σ 99 l p) (a := n1) (w := (w : Int)) (by omega) (by omega) (k := 7) (n := n2)
            rw [hV] at this
            rw [goF_wm, ← this]
            omega) 99 N (upd2 I9 310 0 0) (by omega) (by omega) (by omega) FB.rf
          refine ⟨.inl (nI V), I9, nI V, I8, ?_, (fun E h => by cases h), ?_, (by rw [f8.2 0 (by simp), u2_at]; rfl), (fun v h => by cases h; rfl), hInv.sm (sm9.tr (s0.tr (Sm.fb f8)))⟩
          · unfold mX10_widest mX10_checkUnlike mX10_checkPriority mX10_isPriority
            rw [c_nod1 hn c1 hn1 hn2, lb_l, if_neg h12', lb_l, if_neg (nI_pos (by omega)), show (7 : Int32) = nI 7 from rfl, if_neg (nI_nlt hp (by omega)), ob_some, if_neg (show ¬ (1 : Int32) = 0 by decide), lb_l, e4, ob_some, show I4 36 2 = σ.up from cs4.1, e9, ob_some, hV, zI_nat]
          · rw [baseM I9 1 m9 (by rw [if_neg h12', show mX11_within (nI p) 0 7 (upd2 I9 310 0 0) = some 1 from eW _, ob_some, if_neg (show ¬ (1 : Int32) = 0 by decide)]), m_right1 u2_at, ob_some]
            dsimp only
            rw [if_neg (show ¬ (1 : Int32) = 0 by decide), show mX11_widest_55 N (nI n1) (nI n2) (nI p) N 99 (upd2 I9 310 0 0) = some (nI V, I8) from e8, ob_some]
        · refine bad ?_ (by rw [if_neg h12', show mX11_within a3 0 7 (upd2 I 310 0 0) = some 0 from eW _, ob_some, if_pos (show (0 : Int32) = 0 from rfl)])
          unfold mX10_widest mX10_checkUnlike mX10_checkPriority mX10_isPriority
          rw [c_nod1 hn c1 hn1 hn2, lb_l, if_neg h12', lb_l]
          rcases i_nn a3 with h | ⟨n, h1, rfl⟩
          · rw [if_pos h]; rfl
          · by_cases h2 : n ≤ 7
            · exact absurd rfl (hno n (by omega) h2)
            · rw [if_neg (nI_pos (by omega)), show (7 : Int32) = nI 7 from rfl, if_pos (nI_lt (by omega) (by omega))]; rfl
    · refine ⟨.inr xnN, I, 0, upd2 (upd2 I 310 0 0) 310 0 1, ?_, (fun E h => by cases h; exact Or.inl rfl), ?_, u2_at.trans (by decide), (fun v h => by cases h), hInv.sm s0.u0⟩
      · unfold mX10_widest
        rw [c_nod2 c1 (Or.inr ⟨nI_pos (by omega), nI_ge hn1 (by omega), b2⟩), lb_r]
      · unfold mX11_widest
        rw [eM1 _ m1' u2_at, ob_some]
        dsimp only
        rw [if_neg (show ¬ (1 : Int32) = 0 by decide), eM2 _ m1' u2_at, ob_some]
        dsimp only
        rw [if_pos rfl]
  · refine ⟨.inr xnN, I, 0, upd2 (upd2 I 310 0 0) 310 0 1, ?_, (fun E h => by cases h; exact Or.inl rfl), ?_, u2_at.trans (by decide), (fun v h => by cases h), hInv.sm s0.u0⟩
    · unfold mX10_widest
      rw [c_nod2 c1 (Or.inl b1), lb_r]
    · unfold mX11_widest
      rw [eM1 _ m1' u2_at, ob_some]
      dsimp only
      rw [if_pos rfl]
end WideS
/-! distance -/
def FarI (ν : Nt) (go : Nat → Bool) (a r : Nat) (F : Nat → Nat) : Prop := ∀ n, n < 8 → F n ≤ 999999 ∧ (F n = 999999 ∨ ∃ p, chn ν a p n ∧ (∀ l ∈ p, go l = true) ∧ mt ν p = F n) ∧ ∀ p, chn ν a p n → (∀ l ∈ p, go l = true) → p.length ≤ r → F n ≤ mt ν p
section Dist
variable {ν : Nt} {σ : St} {N a z : Nat} {I : gI}
theorem m_di25 {k2 : Int32} (ha : a < 8) (hN : 100 ≤ N) : ∃ I', mX11_distance_25 (nI a) k2 N 0 I = some I' ∧ Fr [332] I I' ∧ ∀ n, n < 8 → I' 332 n = nI (if n = a then 0 else 999999) := by
  obtain ⟨I', hP, e⟩ := loopP (F := fun n s i => mX11_distance_25 (nI a) k2 n i s) (b := 8) (out := id)
    (P := fun k s => Fr [332] I s ∧ ∀ n, n < k → s 332 n = nI (if n = a then 0 else 999999))
    (fun n s hP => by
      show mX11_distance_25 (nI a) k2 (n + 1) (nI 8) s = some s
      rw [mX11_distance_25, if_pos (by decide)])
    (fun n k s hk hP => by
      have h8 : ¬ (8 : Int32) ≤ nI k := nI_ge (b := 8) hk (by decide)
      by_cases e : k = a
      · refine ⟨upd2 s 332 k 0, ?_, hP.1.u2 (by simp), fun m hm => ?_⟩
        · show mX11_distance_25 (nI a) k2 (n + 1) (nI k) s = _
          rw [mX11_distance_25, if_neg h8, if_pos (by rw [e]), ck_n (by omega) (by decide), nI_clamp (by omega), nI_1]
        · by_cases hm2 : m = k
          · rw [hm2, u2_at, if_pos e]; rfl
          · rw [u2_ne (by omega)]; exact hP.2 m (by omega)
      · refine ⟨upd2 s 332 k 999999, ?_, hP.1.u2 (by simp), fun m hm => ?_⟩
        · show mX11_distance_25 (nI a) k2 (n + 1) (nI k) s = _
          rw [mX11_distance_25, if_neg h8, if_neg (fun h => e ((nI_eq (by omega) (by omega)).mp h)), ck_n (by omega) (by decide), nI_clamp (by omega), nI_1]
        · by_cases hm2 : m = k
          · rw [hm2, u2_at, if_neg e]; rfl
          · rw [u2_ne (by omega)]; exact hP.2 m (by omega))
    N 0 I (by omega) (by omega) ⟨Fr.rf, fun n hn => by omega⟩
  exact ⟨I', e, hP⟩
set_option maxHeartbeats 1000000 in
/-- one round -/
theorem m_di65 (hn : WfN ν) (hI : NetM ν I) (hs : MS ν 317 0 σ I) {k2 k3 : Int32} {r : Nat} {F : Nat → Nat} (hF : ∀ n, n < 8 → I 332 n = nI (F n)) (hr : FarI ν (fun l => bt σ.up l) a r F) (hN : 100 ≤ N) : ∃ I' F', mX11_distance_65 k2 k3 N 0 I = some I' ∧ Fr [332] I I' ∧ (∀ n, n < 8 → I' 332 n = nI (F' n)) ∧ FarI ν (fun l => bt σ.up l) a (r + 1) F' := by
  have hln := hn.2.2.1
  have hnn := hn.2.1
  obtain ⟨I', hP, e⟩ := loopP (F := fun n s i => mX11_distance_65 k2 k3 n i s) (b := ν.ln) (out := id)
    (P := fun k s => Fr [332] I s ∧ ∃ G : Nat → Nat, (∀ n, n < 8 → s 332 n = nI (G n)) ∧ FarI ν (fun l => bt σ.up l) a r G ∧ ∀ l, l < k → bt σ.up l = true → ∀ p, chn ν a p (ν.L l 0) → (∀ l ∈ p, bt σ.up l = true) → p.length ≤ r → G (ν.L l 1) ≤ mt ν p + ν.L l 2)
    (fun n s hP => by
      show mX11_distance_65 k2 k3 (n + 1) (nI ν.ln) s = some s
      rw [mX11_distance_65, (hI.fr hP.1 (by simp) (by simp) (by simp)).2.1, if_pos (nI_le (Nat.le_refl _) (by omega))])
    (fun n k s hk hP => by
      obtain ⟨f, G, hG, hr, hd⟩ := hP
      have hI' := hI.fr f (by simp) (by simp) (by simp)
      have hs' : MS ν 317 0 σ s := hs.c (f 317 (by simp))
      have hL := hn.2.2.2.2.1 k hk
      have g0 := hr (ν.L k 0) (by omega)
      have g1 := hr (ν.L k 1) (by omega)
      have e0 : s 313 (5 * k) = nI (ν.L k 0) := hI'.2.2.2.1 k hk 0 (by decide)
      have e1 : s 313 (5 * k + 1) = nI (ν.L k 1) := hI'.2.2.2.1 k hk 1 (by decide)
      have e2 : s 313 (5 * k + 2) = nI (ν.L k 2) := hI'.2.2.2.1 k hk 2 (by decide)
      have key : mX11_distance_65 k2 k3 (n + 1) (nI k) s = if bt σ.up k = true then mX11_distance_65 k2 k3 n (nI (k + 1)) (upd2 s 332 (ν.L k 1) (nI (if G (ν.L k 0) + ν.L k 2 ≤ G (ν.L k 1) then G (ν.L k 0) + ν.L k 2 else G (ν.L k 1)))) else mX11_distance_65 k2 k3 n (nI (k + 1)) s := by
        rw [mX11_distance_65, hI'.2.1, if_neg (nI_ge hk (by omega)), show mX11_isUp 0 (nI k) s = _ from m_up (b := 0) hs' (by omega) (by omega), ob_some, n5', show (2 : Int32) = nI 2 from rfl, show (1 : Int32) = nI 1 from rfl, nI_add, nI_add, nI_add, ck_n (by omega) (by decide), ck_n (by omega) (by decide), ck_n (by omega) (by decide), nI_clamp (by omega), nI_clamp (by omega), nI_clamp (by omega), e0, e1, e2, ck_n (by omega) (by decide), ck_n (by omega) (by decide), nI_clamp (by omega), nI_clamp (by omega), hG _ (by omega), hG _ (by omega), nI_add, nm_n]
        unfold mX11_lesser
        cases hu : bt σ.up k with
        | false => rw [if_neg (show ¬ false = true by decide), if_pos (show (0 : Int32) = 0 from rfl), if_neg (by decide)]
        | true =>
          rw [if_pos (show true = true from rfl), if_neg (show ¬ nI 1 = 0 by decide), if_pos (show true = true from rfl)]
          by_cases h : G (ν.L k 0) + ν.L k 2 ≤ G (ν.L k 1)
          · rw [if_pos (nI_le h (by omega)), if_pos h, ob_some]
          · rw [if_neg (nI_ge (by omega) (by omega)), if_neg h, ob_some]
      by_cases hu : bt σ.up k = true
      · obtain ⟨m, hm⟩ : ∃ m, m = (if G (ν.L k 0) + ν.L k 2 ≤ G (ν.L k 1) then G (ν.L k 0) + ν.L k 2 else G (ν.L k 1)) := ⟨_, rfl⟩
        have hm1 : m ≤ G (ν.L k 1) := by rw [hm]; split <;> omega
        have hm2 : m ≤ G (ν.L k 0) + ν.L k 2 := by rw [hm]; split <;> omega
        have hm3 : m = G (ν.L k 1) ∨ m = G (ν.L k 0) + ν.L k 2 := by rw [hm]; split <;> omega
        refine ⟨upd2 s 332 (ν.L k 1) (nI m), by show mX11_distance_65 k2 k3 (n + 1) (nI k) s = _; rw [key, if_pos hu, ← hm], f.u2 (by simp), fun x => if x = ν.L k 1 then m else G x, fun x hx => ?_, fun x hx => ?_, fun l hl hul p h1 h2 h3 => ?_⟩
        · by_cases ex : x = ν.L k 1
          · rw [ex, u2_at]; simp
          · rw [u2_ne (by omega)]; simp only [ex, if_false]; exact hG x hx
        · show (if x = ν.L k 1 then m else G x) ≤ 999999 ∧ ((if x = ν.L k 1 then m else G x) = 999999 ∨ ∃ p, chn ν a p x ∧ (∀ l ∈ p, bt σ.up l = true) ∧ mt ν p = (if x = ν.L k 1 then m else G x)) ∧ ∀ p, chn ν a p x → (∀ l ∈ p, bt σ.up l = true) → p.length ≤ r → (if x = ν.L k 1 then m else G x) ≤ mt ν p
          by_cases ex : x = ν.L k 1
          · subst ex
            rw [if_pos rfl]
            refine ⟨by omega, ?_, fun p h1 h2 h3 => Nat.le_trans hm1 (g1.2.2 p h1 h2 h3)⟩
            rcases hm3 with h | h
            · rw [h]; exact g1.2.1
            · rcases g0.2.1 with h0 | ⟨p, h1, h2, h3⟩
              · exact Or.inl (by omega)
              · refine Or.inr ⟨p ++ [k], chn_snoc h1 hk rfl, fun y hy => ?_, ?_⟩
                · rcases List.mem_append.mp hy with hy | hy
                  · exact h2 y hy
                  · rw [List.mem_singleton] at hy; rw [hy]; exact hu
                · rw [mt_app, h3, h]
                  simp [mt]
          · rw [if_neg ex]; exact hr x hx
        · show (if ν.L l 1 = ν.L k 1 then m else G (ν.L l 1)) ≤ _
          by_cases hlk : l = k
          · subst hlk
            rw [if_pos rfl]
            have := g0.2.2 p h1 h2 h3
            omega
          · have := hd l (by omega) hul p h1 h2 h3
            by_cases ex : ν.L l 1 = ν.L k 1
            · rw [if_pos ex]; rw [ex] at this; omega
            · rw [if_neg ex]; exact this
      · refine ⟨s, by show mX11_distance_65 k2 k3 (n + 1) (nI k) s = _; rw [key, if_neg hu], f, G, hG, hr, fun l hl hul => ?_⟩
        by_cases hlk : l = k
        · subst hlk; exact absurd hul hu
        · exact hd l (by omega) hul)
    N 0 I (by omega) (by omega) ⟨Fr.rf, F, hF, hr, fun l hl => by omega⟩
  obtain ⟨f, G, hG, hr', hd⟩ := hP
  refine ⟨I', G, e, f, hG, fun n hn' => ⟨(hr' n hn').1, (hr' n hn').2.1, fun p h1 h2 h3 => ?_⟩⟩
  by_cases h4 : p.length ≤ r
  · exact (hr' n hn').2.2 p h1 h2 h4
  · rcases snoc9 p with rfl | ⟨q, l, rfl⟩
    · simp at h4
    · obtain ⟨m, h5, h6⟩ := chn_app.mp h1
      have hc : ν.L l 1 = n := h6.2.2
      have := hd l h6.1 (h2 l (by simp)) q (by rw [h6.2.1]; exact h5) (fun x hx => h2 x (by simp [hx])) (by simp at h3; omega)
      rw [hc] at this
      rw [mt_app]
      simp only [mt]
      omega
theorem m_di56 (hn : WfN ν) (hI : NetM ν I) (hs : MS ν 317 0 σ I) {k2 : Int32} {F : Nat → Nat} (hF : ∀ n, n < 8 → I 332 n = nI (F n)) (hr : FarI ν (fun l => bt σ.up l) a 0 F) (hN : 100 ≤ N) : ∃ I' F', mX11_distance_56 N k2 N 0 I = some I' ∧ Fr [332] I I' ∧ (∀ n, n < 8 → I' 332 n = nI (F' n)) ∧ FarI ν (fun l => bt σ.up l) a 8 F' := by
  obtain ⟨I', hP, e⟩ := loopP (F := fun n s i => mX11_distance_56 N k2 n i s) (b := 8) (out := id)
    (P := fun k s => Fr [332] I s ∧ ∃ G : Nat → Nat, (∀ n, n < 8 → s 332 n = nI (G n)) ∧ FarI ν (fun l => bt σ.up l) a k G)
    (fun n s hP => by
      show mX11_distance_56 N k2 (n + 1) (nI 8) s = some s
      rw [mX11_distance_56, if_pos (by decide)])
    (fun n k s hk hP => by
      obtain ⟨f, G, hG, hr⟩ := hP
      obtain ⟨I2, G2, e2, f2, hG2, hr2⟩ := m_di65 (N := N) (k2 := k2) (k3 := nI k) hn (hI.fr f (by simp) (by simp) (by simp)) (hs.c (f 317 (by simp)) : MS ν 317 0 σ s) hG hr hN
      refine ⟨I2, ?_, f.tr f2, G2, hG2, hr2⟩
      show mX11_distance_56 N k2 (n + 1) (nI k) s = _
      rw [mX11_distance_56, if_neg (show ¬ (8 : Int32) ≤ nI k from nI_ge (b := 8) hk (by decide)), e2, ob_some, nI_1])
    N 0 I (by omega) (by omega) ⟨Fr.rf, F, hF, hr⟩
  obtain ⟨f, G, hG, hr'⟩ := hP
  exact ⟨I', G, e, f, hG, hr'⟩
/-- least metric of the class against the reference's -/
theorem far_eq (hn : WfN ν) {go : Nat → Bool} {F : Nat → Nat} (ha : a < ν.nn) (hz : z < 8) (hF : FarI ν go a 8 F) : (Dm ν go z 7 a = 1000000 ∧ F z = 999999) ∨ (Dm ν go z 7 a < 999999 ∧ F z = Dm ν go z 7 a) := by
  have hf := hF z hz
  have hle := Dm_le (ν := ν) (go := go) (z := z) (n := a) 7
  by_cases hd : Dm ν go z 7 a < 1000000
  · obtain ⟨p, h1, h2, h3, h4⟩ := Dm_ex hd
    have h5 := hf.2.2 p h1 h2 (by omega)
    have h6 := mt_le hn (chn_lt h1)
    rcases hf.2.1 with h | ⟨q, q1, q2, q3⟩
    · omega
    · obtain ⟨w, ws, wp⟩ := way_of_walk hn ha q1 q2
      have := mt_sub hn ws (chn_lt q1)
      have := Dm_walk wp.1 wp.2.2.2 wp.2.2.1
      exact Or.inr ⟨by omega, by omega⟩
  · refine Or.inl ⟨by omega, ?_⟩
    rcases hf.2.1 with h | ⟨q, q1, q2, q3⟩
    · exact h
    · obtain ⟨w, ws, wp⟩ := way_of_walk hn ha q1 q2
      have h1 := Dm_walk wp.1 wp.2.2.2 wp.2.2.1
      have h2 := mt_le hn (chn_lt wp.1)
      have h3 := wp.2.2.1
      omega
set_option maxHeartbeats 1000000 in
theorem s_distance (hN : 100000000000 ≤ N) : St_distance N Inv := by
  intro c I J a1 a2 hc hInv
  obtain ⟨⟨ν, σ, ks, vs, hP⟩, mv⟩ := id hInv
  obtain ⟨hn, g, c1, m1, c2, m2, ac, sg, im, tp, ct⟩ := id hP
  have hnn := hn.2.1
  have hln := hn.2.2.1
  have s0 : ∀ {K : gI}, Sm K (upd2 K 310 0 0) := Sm.rf.u0
  have m1' : NetM ν (upd2 I 310 0 0) := m1.sm s0
  rcases nod_ck hn a1 with ⟨n1, hn1, rfl, eM1⟩ | ⟨b1, eM1⟩
  · rcases nod_ck hn a2 with ⟨n2, hn2, rfl, eM2⟩ | ⟨b2, eM2⟩
    · obtain ⟨I4, r, e4, f4, -⟩ := c_lm (N := N) (x := σ.up) (go := fun l => bt σ.up l) (a := n1) (z := n2) (h := 7) hn c1 (by omega) (by omega) (by omega) (fun l hl => rfl) (by omega)
      have sm4 : Sm I I4 := Sm.fr f4 (by simp [sc])
      have m4' : NetM ν (upd2 I4 310 0 0) := (m1.sm sm4).sm s0
      have h4' : MS ν 317 0 σ (upd2 I4 310 0 0) := (m2.c (f4 317 (by simp)) : MS ν 317 0 σ I4).c (u2_c (by decide))
      obtain ⟨I5, e5, f5, h5⟩ := m_di25 (N := N) (I := upd2 I4 310 0 0) (a := n1) (k2 := nI n2) (by omega) (by omega)
      obtain ⟨I6, F, e6, f6, h6, hF⟩ := m_di56 (N := N) (k2 := nI n2) hn (m4'.fr f5 (by simp) (by simp) (by simp)) (h4'.c (f5 317 (by simp)) : MS ν 317 0 σ I5) (a := n1) h5 (fun n hn' => by
        by_cases e : n = n1
        · subst e
          rw [if_pos rfl]
          exact ⟨by omega, Or.inr ⟨[], rfl, fun l hl => (by cases hl), rfl⟩, fun p _ _ _ => Nat.zero_le _⟩
        · rw [if_neg e]
          refine ⟨by omega, Or.inl rfl, fun p h1 h2 h3 => ?_⟩
          have : p = [] := List.length_eq_zero_iff.mp (by omega)
          subst this
          exact absurd h1.symm e) (by omega)
      have fA : Fr [332] (upd2 I4 310 0 0) I6 := f5.tr f6
      have baseM : mX11_distance N (nI n1) (nI n2) I4 = if nI (F n2) < 999999 then some (nI (F n2), I6) else some (-1, I6) := by
        unfold mX11_distance
        rw [eM1 _ m4' u2_at, ob_some]
        dsimp only
        rw [if_neg (show ¬ (1 : Int32) = 0 by decide), eM2 _ m4' u2_at, ob_some]
        dsimp only
        rw [if_neg (show ¬ (1 : Int32) = 0 by decide), e5, ob_some, e6, ob_some, ck_n (by omega) (by decide), nI_clamp (by omega), h6 n2 (by omega)]
      have baseC : mX10_distance N (nI n1) (nI n2) I = if (1000000 : Int32) ≤ nI (Dm ν (fun l => bt σ.up l) n2 7 n1) then some (.inl (-1), I4) else some (.inl (nI (Dm ν (fun l => bt σ.up l) n2 7 n1)), I4) := by
        unfold mX10_distance
        rw [c_nod1 hn c1 hn1 hn2, lb_l, show I 36 2 = σ.up from c2.1, show (7 : Int32) = nI 7 from rfl, e4, ob_some]
      have z6 : I6 310 0 = 0 := by rw [fA 310 (by simp), u2_at]
      have smA : Sm I I6 := sm4.tr (s0.tr (Sm.fr fA (by simp [sc])))
      rcases far_eq hn hn1 (show n2 < 8 by omega) hF with ⟨h1, h2⟩ | ⟨h1, h2⟩
      · refine ⟨.inl (-1), I4, -1, I6, ?_, (fun E h => by cases h), ?_, z6.trans rfl, (fun v h => by cases h; rfl), hInv.sm smA⟩
        · rw [baseC, h1, if_pos (show (1000000 : Int32) ≤ nI 1000000 by decide)]
        · rw [baseM, h2, if_neg (show ¬ nI 999999 < 999999 by decide)]
      · refine ⟨.inl (nI (Dm ν (fun l => bt σ.up l) n2 7 n1)), I4, nI (Dm ν (fun l => bt σ.up l) n2 7 n1), I6, ?_, (fun E h => by cases h), ?_, z6.trans rfl, (fun v h => by cases h; rfl), hInv.sm smA⟩
        · rw [baseC, if_neg (show ¬ (1000000 : Int32) ≤ nI _ from nI_ge (b := 1000000) (by omega) (by omega))]
        · rw [baseM, h2, if_pos (show nI _ < (999999 : Int32) from nI_lt (b := 999999) h1 (by omega))]
    · refine ⟨.inr xnN, I, 0, upd2 (upd2 I 310 0 0) 310 0 1, ?_, (fun E h => by cases h; rfl), ?_, u2_at, (fun v h => by cases h), hInv.sm s0.u0⟩
      · unfold mX10_distance
        rw [c_nod2 c1 (Or.inr ⟨nI_pos (by omega), nI_ge hn1 (by omega), b2⟩), lb_r]
      · unfold mX11_distance
        rw [eM1 _ m1' u2_at, ob_some]
        dsimp only
        rw [if_neg (show ¬ (1 : Int32) = 0 by decide), eM2 _ m1' u2_at, ob_some]
        dsimp only
        rw [if_pos rfl]
  · refine ⟨.inr xnN, I, 0, upd2 (upd2 I 310 0 0) 310 0 1, ?_, (fun E h => by cases h; rfl), ?_, u2_at, (fun v h => by cases h), hInv.sm s0.u0⟩
    · unfold mX10_distance
      rw [c_nod2 c1 (Or.inl b1), lb_r]
    · unfold mX11_distance
      rw [eM1 _ m1' u2_at, ob_some]
      dsimp only
      rw [if_pos rfl]
end Dist
