/-! the same, but for the search's counter and its rows -/
def Kp3 (c j : Nat) : Prop := c ≤ 14 ∨ (36 ≤ c ∧ c ≤ 38) ∨ (51 ≤ c ∧ c ≤ 309) ∨ (c = 310 ∧ (j = 2 ∨ j = 4 ∨ j = 13 ∨ j = 14 ∨ j = 15 ∨ j = 25 ∨ j = 45 ∨ j = 48 ∨ j = 49 ∨ j = 50)) ∨ (311 ≤ c ∧ c ≤ 313) ∨ c = 315 ∨ (c = 317 ∧ j < 82) ∨ c = 318 ∨ (333 ≤ c ∧ c ≤ 336)
def Sm3 (I I' : gI) : Prop := ∀ c j, Kp3 c j → I' c j = I c j
theorem kp3_kp {c j : Nat} (h : Kp3 c j) : Kp c j := by unfold Kp3 at h; unfold Kp; omega
theorem kp3_n {c j : Nat} (h : Kp3 c j) : c ≠ 43 ∧ c ≠ 49 := by unfold Kp3 at h; omega
section Same3
variable {ν : Nt} {σ : St} {I I' I'' : gI}
theorem Sm3.sm (h : Sm I I') : Sm3 I I' := fun c j k => h c j (kp3_kp k)
theorem Sm3.tr (h : Sm3 I I') (h2 : Sm3 I' I'') : Sm3 I I'' := fun c j k => (h2 c j k).trans (h c j k)
theorem Sm3.fr {X : List Nat} (h : Fr X I I') (hX : ∀ c ∈ X, sc c ∨ c = 43 ∨ c = 49) : Sm3 I I' := fun c j k => by
  rw [h c (fun hc => by
    rcases hX c hc with h | h | h
    · exact sc_kp h (kp3_kp k)
    · exact (kp3_n k).1 h
    · exact (kp3_n k).2 h)]
theorem NetC.sm3 (h : NetC ν I) (hs : Sm3 I I') : NetC ν I' := ⟨by rw [hs 2 0 (by unfold Kp3; omega)]; exact h.1, by rw [hs 2 1 (by unfold Kp3; omega)]; exact h.2.1, by rw [hs 2 2 (by unfold Kp3; omega)]; exact h.2.2.1, fun l hl j hj => by rw [hs _ _ (by unfold Kp3; omega)]; exact h.2.2.2.1 l hl j hj, fun t ht j hj => by rw [hs _ _ (by unfold Kp3; omega)]; exact h.2.2.2.2 t ht j hj⟩
theorem NetM.sm3 (h : NetM ν I) (hs : Sm3 I I') : NetM ν I' := ⟨by rw [hs 310 _ (by unfold Kp3; omega)]; exact h.1, by rw [hs 310 _ (by unfold Kp3; omega)]; exact h.2.1, by rw [hs 310 _ (by unfold Kp3; omega)]; exact h.2.2.1, fun l hl j hj => by rw [hs 313 _ (by unfold Kp3; omega)]; exact h.2.2.2.1 l hl j hj, fun t ht j hj => by rw [hs 315 _ (by unfold Kp3; omega)]; exact h.2.2.2.2 t ht j hj⟩
theorem CS.sm3 {u : Nat} (h : CS ν u σ I) (hs : Sm3 I I') (hu : u = 36 ∨ (51 ≤ u ∧ u ≤ 307)) : CS ν u σ I' := ⟨by rw [hs u 2 (by unfold Kp3; omega)]; exact h.1, fun t ht => by rw [hs (u + 1) t (by unfold Kp3; omega), hs (u + 2) t (by unfold Kp3; omega)]; exact h.2 t ht⟩
theorem MS.sm3 {r b : Nat} (hn : WfN ν) (hw : WfW ν σ) (h : MS ν r b σ I) (hs : Sm3 I I') (hr : (r = 317 ∧ b = 0) ∨ r = 318 ∨ (333 ≤ r ∧ r ≤ 336)) : MS ν r b σ I' := by
  have htn := hn.2.2.2.1
  refine ⟨by rw [hs r b (by unfold Kp3; omega)]; exact h.1, fun t ht => ?_⟩
  have hwt := (hw t ht).2.1
  exact ⟨by rw [hs r _ (by unfold Kp3; omega)]; exact (h.2 t ht).1, by rw [hs r _ (by unfold Kp3; omega)]; exact (h.2 t ht).2.1, fun k hk => by rw [hs r _ (by unfold Kp3; omega)]; exact (h.2 t ht).2.2 k hk⟩
theorem Acts.sm3 {A B r s : Nat} {ks : List St} (hn : WfN ν) (h : Acts ν A B r s ks I) (hs : Sm3 I I') (hA : (A = 51 ∧ B = 53 ∧ r = 318 ∧ s = 25) ∨ (A = 182 ∧ B = 184 ∧ r = 335 ∧ s = 49)) : Acts ν A B r s ks I' := by
  obtain ⟨h1, h2, ⟨f, f1, f2, f3, f4⟩, r1, r2⟩ := h
  refine ⟨h1, h2, ⟨f, f1, by rw [hs A 1 (by unfold Kp3; omega)]; exact f2, by rw [hs A 2 (by unfold Kp3; omega)]; exact f3, fun j hj => (f4 j hj).sm3 hs (by omega)⟩, by rw [hs 310 s (by unfold Kp3; omega)]; exact r1, fun j hj => ?_⟩
  exact MS.sm3 hn ((h2 _ (List.getElem_mem hj)).wf hn) (r2 j hj) hs (by omega)
theorem Sght.sm3 {A r s : Nat} {vs : List (Nat → Nat)} (h : Sght ν A r s vs I) (hs : Sm3 I I') (hA : (A = 173 ∧ r = 333 ∧ s = 45) ∨ (A = 304 ∧ r = 336 ∧ s = 50)) : Sght ν A r s vs I' := by
  obtain ⟨h1, h2, h3, h4, h5⟩ := h
  refine ⟨h1, h2, by rw [hs A 5 (by unfold Kp3; omega)]; exact h3, by rw [hs 310 s (by unfold Kp3; omega)]; exact h4, fun j hj k hk => ?_⟩
  rw [hs _ _ (by unfold Kp3; omega), hs r _ (by unfold Kp3; omega)]
  exact h5 j hj k hk
theorem Img.sm3 (hn : WfN ν) (h : Img ν I) (hs : Sm3 I I') : Img ν I' := by
  have e1 := hs 310 48 (by unfold Kp3; omega)
  have e2 := hs 0 16 (by unfold Kp3; omega)
  obtain ⟨h1, h2⟩ := h
  refine ⟨by rw [e1, e2]; exact h1, ?_⟩
  rw [e2]
  rcases h2 with h2 | ⟨h2, σ, ks, vs, g, c1, m1, a1, s1⟩
  · exact Or.inl h2
  · exact Or.inr ⟨h2, σ, ks, vs, g, c1.sm3 hs (by omega), MS.sm3 hn (g.wf hn) m1 hs (by omega), a1.sm3 hn hs (by omega), s1.sm3 hs (by omega)⟩
theorem Tp.sm3 (h : Tp I) (hs : Sm3 I I') : Tp I' := by
  obtain ⟨n, h1, h2, h3, h4⟩ := h
  refine ⟨n, h1, by rw [hs 0 1 (by unfold Kp3; omega)]; exact h2, by rw [hs 310 2 (by unfold Kp3; omega)]; exact h3, fun j hj => ?_⟩
  rw [hs 311 j (by unfold Kp3; omega), hs 1 j (by unfold Kp3; omega)]
  exact h4 j hj
theorem Ctr.sm3 (h : Ctr I) (hs : Sm3 I I') : Ctr I' := by
  unfold Ctr
  rw [hs 310 4 (by unfold Kp3; omega), hs 0 2 (by unfold Kp3; omega), hs 312 0 (by unfold Kp3; omega), hs 312 1 (by unfold Kp3; omega), hs 312 2 (by unfold Kp3; omega), hs 0 3 (by unfold Kp3; omega), hs 0 4 (by unfold Kp3; omega), hs 0 5 (by unfold Kp3; omega)]
  exact h
theorem Pk.sm3 {ks : List St} {vs : List (Nat → Nat)} (h : Pk ν σ ks vs I) (hs : Sm3 I I') : Pk ν σ ks vs I' := by
  obtain ⟨hn, g, c1, m1, c2, m2, a, s, i, t, k⟩ := h
  exact ⟨hn, g, c1.sm3 hs, m1.sm3 hs, c2.sm3 hs (by omega), MS.sm3 hn (g.wf hn) m2 hs (by omega), a.sm3 hn hs (by omega), s.sm3 hs (by omega), i.sm3 hn hs, t.sm3 hs, k.sm3 hs⟩
theorem mv_fin {c m : Nat} {ks : List St} {vs : List (Nat → Nat)} (h : Pk ν σ ks vs I) (hs : Sm3 I I') (hm : m ≤ 100000 * (c + 1)) (h8 : I' 43 8 = nI m) (h49 : ∀ x, x < 512 → ∃ k, k ≤ m ∧ I' 49 x = nI k) : Inv (c + 1) I' := ⟨⟨ν, σ, ks, vs, h.sm3 hs⟩, m, hm, h8, h49⟩
end Same3
section OrderS
variable {ν : Nt} {σ π : St} {N : Nat} {I : gI}
theorem least_ex {P : Nat → Prop} : ∀ {n : Nat}, P n → ∃ t, P t ∧ ∀ o, o < t → ¬ P o := by
  intro n
  induction n using Nat.strongRecOn with
  | _ n ih =>
    intro h
    by_cases hc : ∃ o, o < n ∧ P o
    · obtain ⟨o, ho, hp⟩ := hc
      exact ih o ho hp
    · exact ⟨n, h, fun o ho hp => hc ⟨o, ho, hp⟩⟩
theorem mvR_len (hn : ν.tn ≤ 9) {B A : Nat} : ∀ {r : List Nat} {s : Nat}, mvR ν σ π B A s r → pcn s + r.length = pcn A
  | [], s, h => by rw [show s = A from h]; rfl
  | t :: r, s, h => by
    have := mvR_len hn h.2.2.2.2
    rw [pcn_or (by have := h.1; omega) h.2.2.1] at this
    rw [List.length_cons]
    omega
theorem fR_ex (hn : ν.tn ≤ 9) {B A : Nat} : ∀ (n s : Nat), (∃ r, mvR ν σ π B A s r ∧ r.length = n) → ∃ row, fR ν σ π B A s row := by
  intro n
  induction n with
  | zero =>
    rintro s ⟨r, h, hl⟩
    rw [List.length_eq_zero_iff] at hl
    subst hl
    exact ⟨[], h⟩
  | succ n ih =>
    rintro s ⟨r, h, hl⟩
    cases r with
    | nil => cases hl
    | cons t r =>
      have hok : okT ν σ π B A s t := ⟨h.1, h.2.1, h.2.2.1, h.2.2.2.1, r, h.2.2.2.2⟩
      have hlen := mvR_len hn h
      obtain ⟨t', h1, h2⟩ := least_ex (P := fun o => okT ν σ π B A s o) hok
      obtain ⟨r', hr'⟩ := h1.2.2.2.2
      have hlen' := mvR_len hn hr'
      rw [pcn_or (by have := h1.1; omega) h1.2.2.1] at hlen'
      obtain ⟨row, hrow⟩ := ih (s ||| 2 ^ t') ⟨r', hr', by omega⟩
      exact ⟨t' :: row, h1, h2, hrow⟩
theorem pcn_9 : ∀ a, a < 512 → pcn a ≤ 9 := by decide +kernel
/-- the plan's ways, as the order needs them -/
theorem pln_all {π : St} (hn : WfN ν) (g : Gd ν σ) (hp : plnR ν ν.tn (2 ^ ν.tn - 1) (dpW σ 511) π) : (∀ t, t < ν.tn → π.w t = [] ∨ IsP ν (opn ν σ t) (ν.T t 0) (ν.T t 1) (ν.T t 6) (π.w t)) ∧ WfW ν π := by
  have htn := hn.2.2.2.1
  have hww := g.wf hn
  obtain ⟨h1, h2, -⟩ := pln_way hp (fun i hi => Or.inl (by
    rw [dpW_w, if_pos]
    rw [show 511 = 2 ^ 9 - 1 from rfl, Nat.testBit_two_pow_sub_one]
    simp
    omega))
  refine ⟨h1, fun t ht => ⟨by rw [h2]; exact (hww t ht).1, ?_⟩⟩
  have hT := hn.2.2.2.2.2 t ht
  rcases h1 t ht with e | e
  · rw [e]; exact ⟨by simp, fun l hl => by cases hl⟩
  · exact ⟨by have := e.2.2.1; omega, chn_lt e.1⟩
theorem m_ord (hn : WfN ν) (g : Gd ν σ) (hN : 100000000000 ≤ N) (hp : plnR ν ν.tn (2 ^ ν.tn - 1) (dpW σ 511) π) {K : gI} (hm : NetM ν K) (hs : MS ν 317 0 σ K) {k : Nat} (hk : k < 2147483648) {ans : Int32} (ha : (¬ Cn ν σ π 0 (mk9 (mvP σ π) ν.tn) 0 ∧ ans = -1) ∨ ∃ row, fR ν σ π 0 (mk9 (mvP σ π) ν.tn) 0 row ∧ ans = if h : k < row.length then nI row[k] else -1) : ∃ I2, mX11_order N (nI k) K = some (ans, I2) ∧ Sm K I2 ∧ I2 310 0 = 0 := by
  have htn := hn.2.2.2.1
  have hww := g.wf hn
  have s0 : Sm K (upd2 K 310 0 0) := Sm.rf.u0
  have hs' : MS ν 317 0 σ (upd2 K 310 0 0) := hs.c (u2_c (by decide))
  obtain ⟨I7, e7, f7, hwp, p7⟩ := m_plan (N := N) hn g (hm.sm s0) hs' hN hp
  have hR7 : RM ν σ π I7 := ⟨(hm.sm s0).fpl f7, MS.fr hn hww hs' (fun j _ hj => f7.2.2 j (by omega)), p7⟩
  have hA := mk9_512 hn (mvP σ π)
  obtain ⟨I11, e11, f11, t11⟩ := m_laysC (N := N) (B := 0) hn hww hwp (by omega) hA hR7
  have hR11 := hR7.fr f11
  have sz : sub9 0 (mk9 (mvP σ π) ν.tn) := fun i hi => by rw [Nat.zero_testBit] at hi; cases hi
  refine ⟨I11, ?_, s0.tr ((Sm.fpl f7).tr (Sm.fr f11 (by simp [sc]))), by rw [f11 310 (by simp), f7.2.1 0 (by simp), u2_at]⟩
  unfold mX11_order
  rw [if_neg (nI_pos (by omega)), ob_some, m_right1 u2_at, ob_some]
  dsimp only
  rw [if_neg (show ¬ (1 : Int32) = 0 by decide), e7, ob_some, m_mvs hn hR7 hww hwp (by omega), ob_some, show mX11_laysCan N (nI (mk9 (mvP σ π) ν.tn)) 0 I7 = some I11 from e11, ob_some, show (0 : Int32).toNatClampNeg = 0 from rfl]
  rcases ha with ⟨hno, rfl⟩ | ⟨row, hrow, rfl⟩
  · rcases t11 0 (by omega) sz with h | h
    · exact absurd h.2 hno
    · rw [h.1, if_pos rfl]
  · rcases t11 0 (by omega) sz with h | h
    · have hlen := fR_len htn hrow
      have hp9 := pcn_9 _ hA
      rw [show pcn 0 = 0 by decide] at hlen
      rw [h.1, if_neg (by decide), show mX11_order_55 N (nI k) (nI (mk9 (mvP σ π) ν.tn)) I11 N 0 0 = _ from m_o55 hn hR11 hww hwp (by omega) hA hk t11 row 0 0 N hrow sz (by omega) (by omega) (by omega)]
      by_cases hlt : k < row.length
      · rw [dif_pos (show k - 0 < row.length from hlt), lb_r, dif_pos hlt]
        rfl
      · rw [dif_neg (show ¬ k - 0 < row.length from hlt), lb_l, dif_neg hlt]
    · exact absurd (fR_Cn hrow) h.2
end OrderS
section OrderT
variable {N : Nat}
set_option maxHeartbeats 1000000 in
theorem s_order (hN : 100000000000 ≤ N) : St_order N Inv := by
  intro c I J a1 hc hInv
  obtain ⟨⟨ν, σ, ks, vs, hP⟩, mv⟩ := id hInv
  obtain ⟨hn, g, c1, m1, c2, m2, ac, sg, im, tp, ct⟩ := id hP
  have htn := hn.2.2.2.1
  have hww := g.wf hn
  have s0 : ∀ {K : gI}, Sm K (upd2 K 310 0 0) := Sm.rf.u0
  rcases i_nn a1 with h | ⟨k, hk, rfl⟩
  · refine ⟨.inr xnN, I, 0, upd2 (upd2 I 310 0 0) 310 0 1, ?_, (fun E h => by cases h; rfl), ?_, u2_at, (fun v h => by cases h), hInv.sm s0.u0⟩
    · unfold mX10_order mX10_checkPlace
      rw [if_neg (fun e => by
        rw [Int32.le_iff_toInt_le] at e
        rw [Int32.lt_iff_toInt_lt] at h
        omega), lb_r]
    · unfold mX11_order
      rw [if_pos h, ob_some, m_right0 u2_at (by decide), ob_some]
      dsimp only
      rw [if_pos rfl]
  · obtain ⟨I5, π, e5, hp, cs44, cs36, f5⟩ := c_plan (N := N) hn g c1 c2 (by omega)
    have c5 := c1.fr f5 (by simp)
    have sm5 : Sm I I5 := Sm.fr f5 (by simp [sc])
    have hP5 := hP.sm sm5
    have mv5 := mv.sm sm5
    obtain ⟨hway, hwp⟩ := pln_all hn g hp
    have hR5 : RC ν σ π I5 := ⟨c5, cs36, cs44⟩
    have hA := mk9_512 hn (mvP σ π)
    have hp9 := pcn_9 _ hA
    have eA := c_mvs (N := N) hn c5 cs36 cs44 g hway (by omega)
    have base : mX10_order N (nI k) I = Option.bind (mX3_inRow N (nI k) I5) (fun (r5, I6) => some (.inl r5, I6)) := by
      unfold mX10_order mX10_checkPlace
      rw [if_pos (show (0 : Int32) ≤ nI k from nI_le (Nat.zero_le k) (by omega)), lb_l, e5, ob_some]
    by_cases hkA : pcn (mk9 (mvP σ π) ν.tn) ≤ k
    · obtain ⟨I2, e2, sm2, z2⟩ : ∃ I2, mX11_order N (nI k) I5 = some (-1, I2) ∧ Sm I5 I2 ∧ I2 310 0 = 0 := by
        refine m_ord hn g hN hp hP5.2.2.2.1 hP5.2.2.2.2.2.1 hk ?_
        by_cases hC : Cn ν σ π 0 (mk9 (mvP σ π) ν.tn) 0
        · obtain ⟨r, hr⟩ := hC
          obtain ⟨row, hrow⟩ := fR_ex htn r.length 0 ⟨r, hr, rfl⟩
          have hlen := fR_len htn hrow
          rw [show pcn 0 = 0 by decide] at hlen
          exact Or.inr ⟨row, hrow, by rw [dif_neg (by omega)]⟩
        · exact Or.inl ⟨hC, rfl⟩
      refine ⟨.inl (-1), I5, -1, I2, ?_, (fun E h => by cases h), e2, z2, (fun v h => by cases h; rfl), hInv.sm (sm5.tr sm2)⟩
      rw [base]
      unfold mX3_inRow
      rw [eA, ob_some, c_bits hA, ob_some, if_pos (nI_le hkA (by omega)), ob_some]
    · obtain ⟨m, m1', m2', m3'⟩ := mv5
      obtain ⟨r, I6, e6, f6, z6, q6, res⟩ := c_can (N := N) (B := 0) (m := m) hn g hwp (by omega) (by omega) hA (fun t ht => by
        rw [mk9_tb] at ht
        simp at ht
        exact ⟨ht.1, Nat.zero_testBit t⟩) hR5 m2' m3'
      have hm6 : NetM ν I6 := hP5.2.2.2.1.fr f6 (by simp) (by simp) (by simp)
      have hs6 : MS ν 317 0 σ I6 := hP5.2.2.2.2.2.1.c (f6 317 (by simp))
      have fin : ∀ ans : Int32, mX3_inRow N (nI k) I5 = some (ans, I6) → ((¬ Cn ν σ π 0 (mk9 (mvP σ π) ν.tn) 0 ∧ ans = -1) ∨ ∃ row, fR ν σ π 0 (mk9 (mvP σ π) ν.tn) 0 row ∧ ans = if h : k < row.length then nI row[k] else -1) → ∃ (rv : Int32 ⊕ String) (I1 : gI) (bb : Int32) (I2 : gI), mX10_order N (nI k) I = some (rv, I1) ∧ (∀ E, rv = .inr E → E = xnN) ∧ mX11_order N (nI k) I1 = some (bb, I2) ∧ I2 310 0 = kL1 rv ∧ (∀ v, rv = .inl v → v = bb) ∧ Inv (c + 1) I2 := by
        intro ans ea ha
        obtain ⟨I2, e2, sm2, z2⟩ := m_ord hn g hN hp hm6 hs6 hk ha
        refine ⟨.inl ans, I6, ans, I2, by rw [base, ea, ob_some], (fun E h => by cases h), e2, z2, (fun v h => by cases h; rfl), ?_⟩
        refine mv_fin (m := m + 1) hP ((Sm3.sm sm5).tr ((Sm3.fr f6 (by simp [sc])).tr (Sm3.sm sm2))) (by omega) (by rw [sm2 43 8 (by unfold Kp; omega)]; exact z6) (fun x hx => by rw [sm2 49 x (by unfold Kp; omega)]; exact q6 x hx)
      have hrow : mX3_inRow N (nI k) I5 = if r = 0 then (some ((-1), I6)) else (some (I6 48 k, I6)) := by
        unfold mX3_inRow
        rw [eA, ob_some, c_bits hA, ob_some, if_neg (nI_ge (by omega) (by omega)), if_neg (show ¬ (9 : Int32) ≤ nI k from nI_ge (b := 9) (by omega) (by omega)), show mX3_canMove N (nI (mk9 (mvP σ π) ν.tn)) 0 I5 = _ from e6, ob_some]
        dsimp only
        rw [ck_n (by omega) (by decide), nI_clamp (by omega)]
      rcases res with ⟨rfl, hno⟩ | ⟨rfl, row, hr, hj⟩
      · exact fin (-1) (by rw [hrow, if_pos rfl]) (Or.inl ⟨hno, rfl⟩)
      · have hlen := fR_len htn hr
        rw [show pcn 0 = 0 by decide] at hlen
        exact fin (nI (row[k]'(by omega))) (by rw [hrow, if_neg (by decide), hj k (by omega)]) (Or.inr ⟨row, hr, by rw [dif_pos (by omega)]⟩)
end OrderT
