/-! the row: the reference's, then the class's -/
section Row
variable {ν : Nt} {σ π : St} {N : Nat} {I : gI}
theorem m_o63 (hn : WfN ν) (hR : RM ν σ π I) (hw : WfW ν σ) (hwp : WfW ν π) (hN : 100 ≤ N) {A s t : Nat} {k1 k4 : Int32} (hA : A < 512) (hsub : sub9 s A) (hT : ∀ x, x < 512 → sub9 x A → tbO ν σ π 0 A I x) (ht : okT ν σ π 0 A s t) (hf : ∀ o, o < t → ¬ okT ν σ π 0 A s o) : ∀ (m k fu : Nat), k + m = t → m < fu → mX11_order_63 N k1 (nI A) (nI s) k4 I fu (nI k) = some (nI t) := by
  have htn := hn.2.2.2.1
  have hs : s < 512 := by have := sub9_le hsub; omega
  have ht9 := ht.1
  intro m
  induction m with
  | zero =>
    intro k fu hk hm
    obtain ⟨n, rfl⟩ : ∃ n, fu = n + 1 := ⟨fu - 1, by omega⟩
    obtain rfl : k = t := by omega
    have tb : ∀ x : Nat, bt (nI x) k = x.testBit k := fun x => b_nI (by omega)
    have hor := or512 (t := k) hs (by omega)
    have hx : I 328 (s ||| 2 ^ k) = 1 := by
      rcases hT (s ||| 2 ^ k) hor (sub_or hsub ht.2.1) with h | h
      · exact h.1
      · exact absurd ht.2.2.2.2 h.2
    rw [mX11_order_63, if_neg (fun e => by rw [mb0 (by omega), tb, ht.2.1] at e; cases e), if_neg (fun e => by rw [mb1 (by omega), tb, ht.2.2.1] at e; cases e), sh1_n k (by omega), nx_or, ck_n hor (by decide), nI_clamp (by omega), nm_n, hx, if_neg (by decide), show mX11_isBooked N (nI s) (nI (2 ^ k)) 0 I = _ from m_booked (B := 0) hn hR hw hwp hN, ob_some, if_pos ht.2.2.2.1, if_neg (by decide)]
  | succ m ih =>
    intro k fu hk hm
    obtain ⟨n, rfl⟩ : ∃ n, fu = n + 1 := ⟨fu - 1, by omega⟩
    have tb : ∀ x : Nat, bt (nI x) k = x.testBit k := fun x => b_nI (by omega)
    have hor := or512 (t := k) hs (by omega)
    have hno := hf k (by omega)
    have nx := ih (k + 1) n (by omega) (by omega)
    rw [mX11_order_63, nI_1, nx]
    by_cases h1 : A.testBit k = true
    · rw [if_neg (fun e => by rw [mb0 (by omega), tb, h1] at e; cases e)]
      by_cases h2 : s.testBit k = true
      · rw [if_pos ((mb1 (by omega) _).mpr (by rw [tb]; exact h2))]
      · have h2' : s.testBit k = false := by simpa using h2
        rw [if_neg (fun e => by rw [mb1 (by omega), tb] at e; exact h2 e), sh1_n k (by omega), nx_or, ck_n hor (by decide), nI_clamp (by omega), nm_n]
        rcases hT (s ||| 2 ^ k) hor (sub_or hsub h1) with h | h
        · rw [h.1, if_neg (by decide), show mX11_isBooked N (nI s) (nI (2 ^ k)) 0 I = _ from m_booked (B := 0) hn hR hw hwp hN, ob_some]
          by_cases hb : bkd ν σ π 0 s (2 ^ k) = true
          · exact absurd ⟨by omega, h1, h2', hb, h.2⟩ hno
          · rw [if_neg hb, if_pos rfl]
        · rw [h.1, if_pos rfl]
    · have h1' : A.testBit k = false := by simpa using h1
      rw [if_pos ((mb0 (by omega) _).mpr (by rw [tb]; exact h1'))]
theorem m_o55 (hn : WfN ν) (hR : RM ν σ π I) (hw : WfW ν σ) (hwp : WfW ν π) (hN : 100 ≤ N) {A i : Nat} (hA : A < 512) (hi : i < 2147483648) (hT : ∀ x, x < 512 → sub9 x A → tbO ν σ π 0 A I x) : ∀ (r : List Nat) (s j fu : Nat), fR ν σ π 0 A s r → sub9 s A → r.length < fu → j ≤ i → j + r.length ≤ 9 → mX11_order_55 N (nI i) (nI A) I fu (nI s) (nI j) = some (if h : i - j < r.length then .inr (nI (r[i - j]), I) else .inl ()) := by
  have htn := hn.2.2.2.1
  intro r
  induction r with
  | nil =>
    intro s j fu hf hsub hfu hj hj9
    obtain ⟨n, rfl⟩ : ∃ n, fu = n + 1 := ⟨fu - 1, by omega⟩
    rw [mX11_order_55, if_pos (show nI s = nI A by rw [show s = A from hf]), dif_neg (by simp)]
  | cons t r ih =>
    intro s j fu hf hsub hfu hj hj9
    obtain ⟨n, rfl⟩ : ∃ n, fu = n + 1 := ⟨fu - 1, by omega⟩
    rw [List.length_cons] at hfu hj9
    obtain ⟨h1, h2, h3⟩ := hf
    have hs : s < 512 := by have := sub9_le hsub; omega
    have hne : ¬ nI s = nI A := fun e => by
      rw [nI_eq (by omega) (by omega)] at e
      have := h1.2.1
      rw [← e, h1.2.2.1] at this
      cases this
    rw [mX11_order_55, if_neg hne, show mX11_order_63 N (nI i) (nI A) (nI s) (nI j) I N 0 = some (nI t) from m_o63 hn hR hw hwp hN hA hsub hT h1 h2 t 0 N (by omega) (by have := h1.1; omega), ob_some]
    by_cases e : j = i
    · subst e
      rw [if_pos rfl, dif_pos (by rw [List.length_cons]; omega)]
      simp
    · rw [if_neg (fun h => e ((nI_eq (by omega) (by omega)).mp h)), sh1_n t (by have := h1.1; omega), nx_or, nI_1, ih (s ||| 2 ^ t) (j + 1) n h3 (sub_or hsub h1.2.1) (by omega) (by omega) (by omega)]
      by_cases hlt : i - (j + 1) < r.length
      · rw [dif_pos hlt, dif_pos (by rw [List.length_cons]; omega)]
        congr 4
        rw [List.getElem_cons, dif_neg (by omega)]
        congr 1
      · rw [dif_neg hlt, dif_neg (by rw [List.length_cons]; omega)]
/-! who is to be moved -/
theorem c_mvs (hn : WfN ν) (hI : NetC ν I) (hs : CS ν 36 σ I) (hp : CS ν 44 π I) (g : Gd ν σ) (hw : ∀ t, t < ν.tn → π.w t = [] ∨ IsP ν (opn ν σ t) (ν.T t 0) (ν.T t 1) (ν.T t 6) (π.w t)) (hN : 100 ≤ N) : mX3_movers N I = some (nI (mk9 (mvP σ π) ν.tn)) := by
  have htn := hn.2.2.2.1
  have hww := g.wf hn
  obtain ⟨v', hP, e⟩ := loopP (F := fun n v i => mX3_movers_4 I n v i) (b := ν.tn) (out := id)
    (P := fun k v => v = bm (mvP σ π) k)
    (fun n v _ => by
      show mX3_movers_4 I (n + 1) v (nI ν.tn) = some v
      rw [mX3_movers_4, hI.2.2.1, if_pos (nI_le (Nat.le_refl _) (by omega))])
    (fun n k v hk hP => by
      have hT := hn.2.2.2.2.2 k hk
      have hlp : ∀ l ∈ π.w k, l < ν.ln := by
        rcases hw k hk with h | h
        · rw [h]; intro l hl; cases hl
        · exact chn_lt h.1
      have hg := (g.1 k hk).2.2
      refine ⟨bm (mvP σ π) (k + 1), ?_, rfl⟩
      show mX3_movers_4 I (n + 1) v (nI k) = mX3_movers_4 I n _ (nI (k + 1))
      rw [mX3_movers_4, hI.2.2.1, if_neg (nI_ge hk (by omega)), ck_n (by omega) (by decide), nI_clamp (by omega), show I 37 k = wb (σ.w k) from (hs.2 k hk).1, show I 45 k = wb (π.w k) from (hp.2 k hk).1, hP, nI_1, bm]
      by_cases h1 : σ.w k = []
      · rw [if_pos ((wb_0 hn (hww k hk).2.2).mpr h1), if_neg (by simp [mvP, h1])]
      · rw [if_neg (fun h => h1 ((wb_0 hn (hww k hk).2.2).mp h))]
        by_cases h2 : π.w k = []
        · rw [if_pos ((wb_0 hn hlp).mpr h2), if_neg (by simp [mvP, h2])]
        · rw [if_neg (fun h => h2 ((wb_0 hn hlp).mp h))]
          by_cases h3 : σ.w k = π.w k
          · rw [if_pos (by rw [h3]), if_neg (by simp [mvP, h3])]
          · rw [if_neg (fun h => h3 (wb_inj hn hI hT.1 hT.2.1 hT.2.2.2.2.2.2.2.2.2 hg (hw k hk) h)), if_pos (by simp [mvP, h1, h2, h3])])
    N 0 0 (Nat.zero_le _) (by omega) rfl
  unfold mX3_movers
  rw [show mX3_movers_4 I N 0 0 = _ from e, ob_some, hP, ← mk9_bm _ (by omega)]
  rfl
theorem m_mv61 (hn : WfN ν) (hR : RM ν σ π I) (hw : WfW ν σ) (hwp : WfW ν π) (hN : 100 ≤ N) {t : Nat} {k1 : Int32} (ht : t < ν.tn) (hp : π.w t ≠ []) (hl : (π.w t).length = (σ.w t).length) : mX11_toMove_61 k1 (nI t) I N 1 0 = some (if π.w t = σ.w t then 1 else 0) := by
  have htn := hn.2.2.2.1
  have l7 := (hwp t ht).2.1
  obtain ⟨hI, hs, hP9⟩ := hR
  obtain ⟨p1, p2, p3⟩ := hP9 t ht
  obtain ⟨q1, q2, q3⟩ := hs.2 t ht
  have h9 := loopR (F := fun n v i => mX11_toMove_61 k1 (nI t) I n v i) (b := (π.w t).length) (out := id) (Qr := fun r => r = (if π.w t = σ.w t then 1 else 0))
    (P := fun k v => (v = 1 ∧ ∀ i (h1 : i < (π.w t).length) (h2 : i < (σ.w t).length), i < k → (π.w t)[i] = (σ.w t)[i]) ∨ (v = 0 ∧ ¬ π.w t = σ.w t))
    (fun n v _ => by
      show mX11_toMove_61 k1 (nI t) I (n + 1) v (nI (π.w t).length) = some v
      rw [mX11_toMove_61, ck_n (by omega) (by decide), nI_clamp (by omega), p1, if_neg hp, if_pos (nI_le (Nat.le_refl _) (by omega))])
    (fun n k v hk hP => by
      have hd : mX11_toMove_61 k1 (nI t) I (n + 1) v (nI k) = if v = 0 then some v else (if (π.w t)[k] = (σ.w t)[k]'(by omega) then mX11_toMove_61 k1 (nI t) I n 1 (nI (k + 1)) else mX11_toMove_61 k1 (nI t) I n 0 (nI (k + 1))) := by
        have i1 : (19 : Int32) + 7 * nI t + nI k = nI (19 + 7 * t + k) := by rw [show (19 : Int32) = nI 19 from rfl, n7', nI_add, nI_add]
        have b1 := (hwp t ht).2.2 _ (List.getElem_mem hk)
        have b2 := (hw t ht).2.2 _ (List.getElem_mem (show k < (σ.w t).length by omega))
        have hln := hn.2.2.1
        have z3 : I 317 (19 + 7 * t + k) = nI ((σ.w t)[k]'(by omega)) := by
          have := q3 k (by omega)
          rwa [Nat.zero_add] at this
        rw [mX11_toMove_61, ck_n (by omega) (by decide), nI_clamp (by omega), p1, if_neg hp, if_neg (nI_ge hk (by omega)), i1, n7, ck_n (by omega) (by decide), ck_n (by omega) (by decide), nI_clamp (by omega), nI_clamp (by omega), p3 k hk, z3, nI_1]
        by_cases hv : v = 0
        · rw [if_pos hv, if_pos hv]
        · rw [if_neg hv, if_neg hv]
          by_cases he : (π.w t)[k] = (σ.w t)[k]'(by omega)
          · rw [if_pos (by rw [he]), if_pos he]
          · rw [if_neg (fun h => he ((nI_eq (by omega) (by omega)).mp h)), if_neg he]
      rcases hP with ⟨rfl, hP⟩ | ⟨rfl, hP⟩
      · left
        rw [if_neg (by decide)] at hd
        by_cases he : (π.w t)[k] = (σ.w t)[k]'(by omega)
        · rw [if_pos he] at hd
          refine ⟨1, hd, Or.inl ⟨rfl, fun i h1 h2 h3 => ?_⟩⟩
          by_cases e : i = k
          · subst e; exact he
          · exact hP i h1 h2 (by omega)
        · rw [if_neg he] at hd
          exact ⟨0, hd, Or.inr ⟨rfl, fun h => he (by simp only [h])⟩⟩
      · right
        rw [if_pos rfl] at hd
        exact ⟨0, hd, by rw [if_neg hP]⟩)
    N 0 1 (Nat.zero_le _) (by omega) (Or.inl ⟨rfl, fun i _ _ h => by omega⟩)
  rcases h9 with ⟨v, hP, e⟩ | ⟨r, e, hr⟩
  · rw [show mX11_toMove_61 k1 (nI t) I N 1 0 = _ from e]
    rcases hP with ⟨rfl, hP⟩ | ⟨rfl, hP⟩
    · rw [if_pos (List.ext_getElem hl (fun i h1 h2 => hP i h1 h2 h1))]
      rfl
    · rw [if_neg hP]
      rfl
  · rw [show mX11_toMove_61 k1 (nI t) I N 1 0 = _ from e, hr]
theorem m_mvs (hn : WfN ν) (hR : RM ν σ π I) (hw : WfW ν σ) (hwp : WfW ν π) (hN : 100 ≤ N) : mX11_toMove N I = some (nI (mk9 (mvP σ π) ν.tn)) := by
  have htn := hn.2.2.2.1
  obtain ⟨hI, hs, hP9⟩ := id hR
  obtain ⟨v', hP, e⟩ := loopP (F := fun n v i => mX11_toMove_4 N I n v i) (b := ν.tn) (out := id)
    (P := fun k v => v = bm (mvP σ π) k)
    (fun n v _ => by
      show mX11_toMove_4 N I (n + 1) v (nI ν.tn) = some v
      rw [mX11_toMove_4, hI.2.2.1, if_pos (nI_le (Nat.le_refl _) (by omega))])
    (fun n k v hk hP => by
      obtain ⟨p1, p2, p3⟩ := hP9 k hk
      have q2 : I 317 (10 + k) = (if σ.w k = [] then -1 else nI (σ.w k).length) := by
        have := (hs.2 k hk).2.1
        rwa [Nat.zero_add] at this
      have l7 := (hwp k hk).2.1
      have l7' := (hw k hk).2.1
      refine ⟨bm (mvP σ π) (k + 1), ?_, rfl⟩
      show mX11_toMove_4 N I (n + 1) v (nI k) = mX11_toMove_4 N I n _ (nI (k + 1))
      rw [mX11_toMove_4, hI.2.2.1, if_neg (nI_ge hk (by omega)), show mX11_doesStand 0 (nI k) I = _ from m_stand (b := 0) hn hs hw (by omega) hk, ob_some, ck_n (by omega) (by decide), nI_clamp (by omega), p1, hP, nI_1, bm]
      by_cases h1 : σ.w k = []
      · rw [if_pos (show (if σ.w k = [] then (0 : Int32) else 1) = 0 by rw [if_pos h1]), if_neg (by simp [mvP, h1])]
      · rw [if_neg (show ¬ (if σ.w k = [] then (0 : Int32) else 1) = 0 by rw [if_neg h1]; decide)]
        by_cases h2 : π.w k = []
        · rw [if_pos (show (if π.w k = [] then (-1 : Int32) else nI (π.w k).length) = -1 by rw [if_pos h2]), if_neg (by simp [mvP, h2])]
        · rw [if_neg (show ¬ (if π.w k = [] then (-1 : Int32) else nI (π.w k).length) = -1 by rw [if_neg h2]; exact nI_m1 (by omega)), ix10', ck_n (by omega) (by decide), nI_clamp (by omega), q2, if_neg h2, if_neg h1]
          by_cases h3 : (π.w k).length = (σ.w k).length
          · rw [if_pos (show nI (π.w k).length = nI (σ.w k).length by rw [h3]), ob_some, m_mv61 hn hR hw hwp hN hk h2 h3, ob_some]
            by_cases h4 : π.w k = σ.w k
            · rw [if_neg (show ¬ (if π.w k = σ.w k then (1 : Int32) else 0) = 0 by rw [if_pos h4]; decide), or_z, if_neg (by simp [mvP, h4])]
            · have h4' : ¬ σ.w k = π.w k := fun h => h4 h.symm
              rw [if_pos (show (if π.w k = σ.w k then (1 : Int32) else 0) = 0 by rw [if_neg h4]), if_pos (by simp [mvP, h1, h2, h4'])]
          · have h4' : ¬ σ.w k = π.w k := fun h => h3 (by rw [h])
            have hlen : 0 < (π.w k).length := List.length_pos_iff.mpr h2
            have e61 : mX11_toMove_61 (bm (mvP σ π) k) (nI k) I N 0 0 = some 0 := by
              obtain ⟨M, rfl⟩ : ∃ M, N = M + 1 := ⟨N - 1, by omega⟩
              rw [mX11_toMove_61, ck_n (by omega) (by decide), nI_clamp (by omega), p1, if_neg h2, if_neg (show ¬ nI (π.w k).length ≤ 0 from nI_ge (a := 0) hlen (by omega)), if_pos rfl]
            rw [if_neg (fun h => h3 ((nI_eq (by omega) (by omega)).mp h)), ob_some, e61, ob_some, if_pos rfl, if_pos (by simp [mvP, h1, h2, h4'])])
    N 0 0 (Nat.zero_le _) (by omega) rfl
  unfold mX11_toMove
  rw [show mX11_toMove_4 N I N 0 0 = _ from e, ob_some, hP, ← mk9_bm _ (by omega)]
  rfl
end Row
