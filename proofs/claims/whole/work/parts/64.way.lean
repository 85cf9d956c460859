/-! the links of a way in their order -/
section WayAt
variable {ν : Nt} {σ : St} {I : gI} {N : Nat}
theorem vis_st : ∀ {p : List Nat} {a z : Nat}, chn ν a p z → vis ν a p = p.map (fun l => ν.L l 0) ++ [z]
  | [], a, z, h => by
    have : a = z := h
    subst this
    rfl
  | l :: p, a, z, h => by
    have ih := vis_st h.2.2
    show a :: (ν.L l 1 :: p.map (fun l => ν.L l 1)) = (ν.L l 0 :: p.map (fun l => ν.L l 0)) ++ [z]
    rw [List.cons_append, ← ih, h.2.1]
    rfl
theorem c_from (hn : WfN ν) (hI : NetC ν I) (hN : 100 ≤ N) {p : List Nat} (hp : ∀ l ∈ p, l < ν.ln) {x : Nat} (hx : x < 1000) : (∃ m, m ∈ p ∧ ν.L m 0 = x ∧ mX4_linkFrom N (wb p) (nI x) I = some (nI m)) ∨ ((∀ m ∈ p, ν.L m 0 ≠ x) ∧ mX4_linkFrom N (wb p) (nI x) I = some (-1)) := by
  have hln := hn.2.2.1
  have h9 := loopR (F := fun n (_ : Unit) i => mX4_linkFrom_2 (wb p) (nI x) I n i) (b := ν.ln) (out := fun _ => Sum.inl ()) (Qr := fun r => ∃ m, r = .inr (nI m) ∧ m ∈ p ∧ ν.L m 0 = x)
    (P := fun k _ => ∀ m, m < k → m ∈ p → ν.L m 0 ≠ x)
    (fun n _ _ => by
      show mX4_linkFrom_2 (wb p) (nI x) I (n + 1) (nI ν.ln) = _
      rw [mX4_linkFrom_2, hI.2.1, if_pos (nI_le (Nat.le_refl _) (by omega))])
    (fun n k _ hk hP => by
      have hL := hn.2.2.2.2.1 k hk
      have hnn := hn.2.1
      have key : mX4_linkFrom_2 (wb p) (nI x) I (n + 1) (nI k) = if k ∈ p then (if ν.L k 0 = x then some (.inr (nI k)) else mX4_linkFrom_2 (wb p) (nI x) I n (nI (k + 1))) else mX4_linkFrom_2 (wb p) (nI x) I n (nI (k + 1)) := by
        rw [mX4_linkFrom_2, hI.2.1, if_neg (nI_ge hk (by omega)), ck_n (by omega) (by decide), nI_clamp (by omega), show I 3 k = nI (ν.L k 0) from hI.2.2.2.1 k hk 0 (by decide), nI_1]
        by_cases h : k ∈ p
        · rw [if_neg (fun e => by rw [cb0 (by omega), b_wb (by omega) p (fun l hl => by have := hp l hl; omega)] at e; simp [h] at e), if_pos h]
          by_cases h2 : ν.L k 0 = x
          · rw [if_pos (by rw [h2]), if_pos h2]
          · rw [if_neg (fun e => h2 ((nI_eq (by omega) (by omega)).mp e)), if_neg h2]
        · rw [if_pos ((cb0 (by omega) _).mpr (by rw [b_wb (by omega) p (fun l hl => by have := hp l hl; omega)]; simp [h])), if_neg h]
      by_cases h : k ∈ p ∧ ν.L k 0 = x
      · rw [if_pos h.1, if_pos h.2] at key
        exact Or.inr ⟨_, key, k, rfl, h.1, h.2⟩
      · have key' : mX4_linkFrom_2 (wb p) (nI x) I (n + 1) (nI k) = mX4_linkFrom_2 (wb p) (nI x) I n (nI (k + 1)) := by
          rw [key]
          by_cases h1 : k ∈ p
          · rw [if_pos h1, if_neg (fun e => h ⟨h1, e⟩)]
          · rw [if_neg h1]
        refine Or.inl ⟨(), key', fun m hm hmp => ?_⟩
        by_cases e : m = k
        · subst e; exact fun e => h ⟨hmp, e⟩
        · exact hP m (by omega) hmp)
    N 0 () (Nat.zero_le _) (by omega) (fun m h => by omega)
  unfold mX4_linkFrom
  rcases h9 with ⟨-, hP, e⟩ | ⟨r, e, m, rfl, h1, h2⟩
  · exact Or.inr ⟨fun m hm => hP m (hp m hm) hm, by rw [show mX4_linkFrom_2 (wb p) (nI x) I N 0 = _ from e, lb_l]⟩
  · exact Or.inl ⟨m, h1, h2, by rw [show mX4_linkFrom_2 (wb p) (nI x) I N 0 = _ from e, lb_r]⟩
theorem c_at6 (hn : WfN ν) (hI : NetC ν I) (hN : 100 ≤ N) {p : List Nat} {z k : Nat} (hp : ∀ l ∈ p, l < ν.ln) (h7 : p.length ≤ 7) (hk : k < 2147483648) (hnd : (p.map (fun l => ν.L l 0) ++ [z]).Nodup) (hz : z < 8) : ∀ (suf pre : List Nat) (x fu : Nat), pre ++ suf = p → chn ν x suf z → x < 8 → pre.length ≤ k → suf.length < fu → lbind (mX4_linkAt_6 N (wb p) (nI k) I fu (nI x) (nI pre.length)) (fun _ => some (-1)) (fun r => some r) = some (if h : k < p.length then nI p[k] else -1)
  | suf, pre, x, 0, _, _, _, _, h => by omega
  | [], pre, x, fu + 1, hpre, hc, hx, hle, _ => by
    have hlen : pre.length = p.length := by rw [← hpre]; simp
    have hxz : x = z := hc
    subst hxz
    rw [dif_neg (by omega), mX4_linkAt_6, show (7 : Int32) = nI 7 from rfl]
    by_cases h : 7 ≤ pre.length
    · rw [if_pos (nI_le h (by omega)), lb_l]
    · rw [if_neg (nI_ge (by omega) (by omega))]
      rcases c_from (N := N) hn hI hN hp (show x < 1000 by omega) with ⟨m, h1, h2, -⟩ | ⟨-, e⟩
      · exfalso
        rw [List.nodup_append] at hnd
        exact hnd.2.2 x (List.mem_map.mpr ⟨m, h1, h2⟩) x (by simp) rfl
      · rw [e, ob_some, if_pos rfl, lb_r]
  | l :: suf, pre, x, fu + 1, hpre, hc, hx, hle, hfu => by
    have hlen : pre.length + (suf.length + 1) = p.length := by rw [← hpre]; simp
    have hlp : l ∈ p := by rw [← hpre]; simp
    have hl := hp l hlp
    have hln := hn.2.2.1
    have hL := hn.2.2.2.2.1 l hl
    have hnn := hn.2.1
    rw [mX4_linkAt_6, show (7 : Int32) = nI 7 from rfl, if_neg (nI_ge (by omega) (by omega))]
    rcases c_from (N := N) hn hI hN hp (show x < 1000 by omega) with ⟨m, h1, h2, e⟩ | ⟨h1, -⟩
    · have hml : m = l := by
        have hnd' : (p.map (fun l => ν.L l 0)).Nodup := (List.nodup_append.mp hnd).1
        obtain ⟨i, hi, rfl⟩ := List.getElem_of_mem h1
        obtain ⟨j, hj, hjl⟩ := List.getElem_of_mem hlp
        have hij : i = j := by
          have q1 : (p.map (fun l => ν.L l 0))[i]'(by simpa using hi) = (p.map (fun l => ν.L l 0))[j]'(by simpa using hj) := by
            rw [List.getElem_map, List.getElem_map, h2, hjl, hc.2.1]
          have hpw := List.pairwise_iff_getElem.mp hnd'
          rcases Nat.lt_trichotomy i j with h3 | h3 | h3
          · exact absurd q1 (hpw i j (by simpa using hi) (by simpa using hj) h3)
          · exact h3
          · exact absurd q1.symm (hpw j i (by simpa using hj) (by simpa using hi) h3)
        subst hij
        exact hjl
      subst hml
      rw [e, ob_some, if_neg (nI_m1 (by omega))]
      by_cases hkk : k = pre.length
      · have hkp : k < p.length := by omega
        rw [if_pos (by rw [hkk]), lb_r, dif_pos hkp]
        have : p[k] = m := by
          subst hkk
          simp only [← hpre]
          rw [List.getElem_append_right (by omega)]
          simp
        rw [this]
      · rw [if_neg (fun e => hkk ((nI_eq (by omega) (by omega)).mp e).symm), ck_n (by omega) (by decide), nI_clamp (by omega), show I 4 m = nI (ν.L m 1) from hI.2.2.2.1 m hl 1 (by decide), nI_1, show pre.length + 1 = (pre ++ [m]).length by simp]
        exact c_at6 hn hI hN hp h7 hk hnd hz suf (pre ++ [m]) (ν.L m 1) fu (by rw [List.append_assoc]; exact hpre) hc.2.2 (by omega) (by simp; omega) (by simp at hfu; omega)
    · exact absurd hc.2.1 (h1 l hlp)
theorem c_at (hn : WfN ν) (hI : NetC ν I) (hN : 100 ≤ N) {p : List Nat} {go : Nat → Bool} {a z h k : Nat} (ha : a < ν.nn) (hz : z < ν.nn) (hh : h ≤ 7) (hk : k < 2147483648) (hp : p = [] ∨ IsP ν go a z h p) : mX4_linkAt N (wb p) (nI a) (nI k) I = some (if h : k < p.length then nI p[k] else -1) := by
  have hnn := hn.2.1
  unfold mX4_linkAt
  rcases hp with rfl | hp
  · have e : mX4_linkAt_6 N (wb []) (nI k) I N (nI a) 0 = some (.inr (-1)) := by
      obtain ⟨n, rfl⟩ : ∃ n, N = n + 1 := ⟨N - 1, by omega⟩
      rw [mX4_linkAt_6, if_neg (by decide)]
      rcases c_from (N := n + 1) (p := []) hn hI (by omega) (by simp) (show a < 1000 by omega) with ⟨m, h1, -⟩ | ⟨-, e⟩
      · cases h1
      · rw [e, ob_some, if_pos rfl]
    rw [e, lb_r]
    simp
  · have hv := vis_st hp.1
    have hnd := hp.2.1
    rw [hv] at hnd
    exact c_at6 hn hI hN (chn_lt hp.1) (by have := hp.2.2.1; omega) hk hnd (by omega) p [] a N rfl hp.1 (by omega) (by simp) (by have := hp.2.2.1; omega)
theorem wb_inj (hn : WfN ν) (hI : NetC ν I) {p q : List Nat} {go go' : Nat → Bool} {a z h : Nat} (ha : a < ν.nn) (hz : z < ν.nn) (hh : h ≤ 7) (hp : p = [] ∨ IsP ν go a z h p) (hq : q = [] ∨ IsP ν go' a z h q) (he : wb p = wb q) : p = q := by
  have hln := hn.2.2.1
  have l7 : ∀ {p : List Nat} {go : Nat → Bool}, (p = [] ∨ IsP ν go a z h p) → p.length ≤ 7 ∧ ∀ l ∈ p, l < ν.ln := by
    intro p go hp
    rcases hp with rfl | hp
    · exact ⟨by simp, fun l hl => by cases hl⟩
    · exact ⟨by have := hp.2.2.1; omega, chn_lt hp.1⟩
  have hp7 := l7 hp
  have hq7 := l7 hq
  have key : ∀ k, k < 100 → (if h : k < p.length then nI p[k] else -1) = (if h : k < q.length then nI q[k] else -1) := by
    intro k hk
    have e1 := c_at (N := 100) hn hI (by omega) ha hz hh (show k < 2147483648 by omega) hp
    have e2 := c_at (N := 100) hn hI (by omega) ha hz hh (show k < 2147483648 by omega) hq
    rw [he, e2] at e1
    exact (Option.some.inj e1).symm
  have hlen : p.length = q.length := by
    rcases Nat.lt_trichotomy p.length q.length with h1 | h1 | h1
    · have e := key p.length (by omega)
      rw [dif_neg (by omega), dif_pos h1] at e
      have := hq7.2 _ (List.getElem_mem h1)
      exact absurd e.symm (nI_m1 (by omega))
    · exact h1
    · have e := key q.length (by omega)
      rw [dif_pos h1, dif_neg (by omega)] at e
      have := hp7.2 _ (List.getElem_mem h1)
      exact absurd e (nI_m1 (by omega))
  apply List.ext_getElem hlen
  intro k h1 h2
  have e := key k (by omega)
  rw [dif_pos h1, dif_pos h2] at e
  have := hp7.2 _ (List.getElem_mem h1)
  have := hq7.2 _ (List.getElem_mem h2)
  exact (nI_eq (by omega) (by omega)).mp e
end WayAt
section Steps4
variable {N : Nat}
theorem s_way (hN : 100000000000 ≤ N) : St_way N Inv := by
  intro c I J a1 a2 hc hInv
  obtain ⟨⟨ν, σ, ks, vs, hP⟩, mv⟩ := id hInv
  obtain ⟨hn, g, c1, m1, c2, m2, ac, sg, im, tp, ct⟩ := id hP
  have htn := hn.2.2.2.1
  have hww := g.wf hn
  have s0 : ∀ {K : gI}, Sm K (upd2 K 310 0 0) := Sm.rf.u0
  rcases tun_ck hn a1 with ⟨t, ht, rfl, eC, eM⟩ | ⟨eC, eM⟩
  · have hT := hn.2.2.2.2.2 t ht
    have m2' : MS ν 317 0 σ (upd2 I 310 0 0) := m2.c (u2_c (by decide))
    have q10 : (upd2 I 310 0 0) 317 (10 + t) = if σ.w t = [] then -1 else nI (σ.w t).length := by have := (m2'.2 t ht).2.1; rwa [Nat.zero_add] at this
    have baseM : ∀ x, (if a2 < 0 then (some 0) else (ck (10 + nI t) 164 (if ((upd2 I 310 0 0) 317 (10 + nI t).toNatClampNeg) ≤ a2 then (some 0) else (some 1))) : Option (Int32)) = some x → mX11_way (nI t) a2 I = Option.bind (mX11_right x 1 (upd2 I 310 0 0)) (fun (r9, I10) => if r9 = 0 then (some (0, I10)) else (ck ((19 + (7 * nI t)) + a2) 164 (some (I10 317 ((19 + (7 * nI t)) + a2).toNatClampNeg, I10)))) := by
      intro x hx
      unfold mX11_way
      rw [eM _ (m1.sm s0) u2_at, ob_some]
      dsimp only
      rw [if_neg (by decide), hx, ob_some]
    have bad : (mX10_way N (nI t) a2 I = some (.inr xnN)) → (if a2 < 0 then (some 0) else (ck (10 + nI t) 164 (if ((upd2 I 310 0 0) 317 (10 + nI t).toNatClampNeg) ≤ a2 then (some 0) else (some 1))) : Option (Int32)) = some 0 → ∃ (rv : Int32 ⊕ String) (bb : Int32) (I2 : gI), mX10_way N (nI t) a2 I = some rv ∧ (∀ E, rv = .inr E → E = xnN) ∧ mX11_way (nI t) a2 I = some (bb, I2) ∧ I2 310 0 = kL1 rv ∧ (∀ v, rv = .inl v → v = bb) ∧ Inv (c + 1) I2 := by
      intro h1 h2
      refine ⟨.inr xnN, 0, upd2 (upd2 I 310 0 0) 310 0 1, h1, (fun E h => by cases h; rfl), ?_, u2_at, (fun v h => by cases h), hInv.sm s0.u0⟩
      rw [baseM 0 h2, m_right0 u2_at (by decide), ob_some]
      dsimp only
      rw [if_pos rfl]
    rcases i_nn a2 with h | ⟨k, hk, rfl⟩
    · refine bad ?_ (by rw [if_pos h])
      unfold mX10_way mX10_checkPlace
      rw [eC I c1, lb_l, if_neg (fun e => by
        rw [Int32.le_iff_toInt_le] at e
        rw [Int32.lt_iff_toInt_lt] at h
        omega), lb_r]
    · have ecl : mX10_way N (nI t) (nI k) I = if (if h : k < (σ.w t).length then nI (σ.w t)[k] else -1) = -1 then some (.inr xnN) else some (.inl (if h : k < (σ.w t).length then nI (σ.w t)[k] else -1)) := by
        unfold mX10_way mX10_checkPlace
        rw [eC I c1, lb_l, if_pos (show (0 : Int32) ≤ nI k from nI_le (Nat.zero_le k) (by omega)), lb_l, ck_n (by omega) (by decide), nI_clamp (by omega), show I 37 t = wb (σ.w t) from (c2.2 t ht).1, show I 8 t = nI (ν.T t 0) from c1.2.2.2.2 t ht 0 (by decide), c_at hn c1 (by omega) hT.1 hT.2.1 hT.2.2.2.2.2.2.2.2.2 hk (g.1 t ht).2.2, ob_some]
      have hcond : (if nI k < 0 then (some 0) else (ck (10 + nI t) 164 (if ((upd2 I 310 0 0) 317 (10 + nI t).toNatClampNeg) ≤ nI k then (some 0) else (some 1))) : Option (Int32)) = some (if k < (σ.w t).length then 1 else 0) := by
        rw [if_neg (nI_pos (by omega)), ix10', ck_n (by omega) (by decide), nI_clamp (by omega), q10]
        have h7 := (hww t ht).2.1
        by_cases hst : σ.w t = []
        · rw [if_pos hst, hst]
          rw [if_pos (by
            rw [Int32.le_iff_toInt_le, nI_toInt (by omega), show (-1 : Int32).toInt = -1 from rfl]
            omega)]
          simp
        · rw [if_neg hst]
          by_cases h : k < (σ.w t).length
          · rw [if_neg (nI_ge h (by omega)), if_pos h]
          · rw [if_pos (nI_le (by omega) (by omega)), if_neg h]
      by_cases h : k < (σ.w t).length
      · have h7 := (hww t ht).2.1
        have hwl := (hww t ht).2.2 _ (List.getElem_mem h)
        have hln := hn.2.2.1
        rw [dif_pos h, if_neg (nI_m1 (by omega))] at ecl
        rw [if_pos h] at hcond
        refine ⟨.inl (nI (σ.w t)[k]), nI (σ.w t)[k], upd2 I 310 0 0, ecl, (fun E h => by cases h), ?_, u2_at, (fun v h => by cases h; rfl), hInv.sm s0⟩
        have q19 : (upd2 I 310 0 0) 317 (19 + 7 * t + k) = nI (σ.w t)[k] := by have := (m2'.2 t ht).2.2 k h; rwa [Nat.zero_add] at this
        rw [baseM 1 hcond, m_right1 u2_at, ob_some]
        dsimp only
        rw [if_neg (by decide), show (19 : Int32) + 7 * nI t + nI k = nI (19 + 7 * t + k) by rw [n7', show (19 : Int32) = nI 19 from rfl, nI_add, nI_add], ck_n (by omega) (by decide), nI_clamp (by omega), q19]
      · rw [if_neg h] at hcond
        refine bad ?_ hcond
        rw [ecl, dif_neg h, if_pos rfl]
  · refine ⟨.inr xnN, 0, upd2 (upd2 I 310 0 0) 310 0 1, ?_, (fun E h => by cases h; rfl), ?_, u2_at, (fun v h => by cases h), hInv.sm s0.u0⟩
    · unfold mX10_way
      rw [eC I c1, lb_r]
    · unfold mX11_way
      rw [eM _ (m1.sm s0) u2_at, ob_some]
      dsimp only
      rw [if_pos rfl]
end Steps4
