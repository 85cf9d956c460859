/-! the class's search for a row -/
section CRow
variable {ν : Nt} {σ π : St} {N : Nat} {I : gI}
def RC (ν : Nt) (σ π : St) (I : gI) : Prop := NetC ν I ∧ CS ν 36 σ I ∧ CS ν 44 π I
theorem RC.fr {X : List Nat} {I' : gI} (h : RC ν σ π I) (f : Fr X I I') (hX : ∀ c ∈ X, 46 < c ∨ c = 43) : RC ν σ π I' := ⟨h.1.fr f (fun c hc => by have := hX c hc; omega), h.2.1.fr f (fun hc => by have := hX _ hc; omega) (fun hc => by have := hX _ hc; omega) (fun hc => by have := hX _ hc; omega), h.2.2.fr f (fun hc => by have := hX _ hc; omega) (fun hc => by have := hX _ hc; omega) (fun hc => by have := hX _ hc; omega)⟩
theorem c_book (hn : WfN ν) (hI : NetC ν I) (hN : 100 ≤ N) {x b : Int32} {go : Nat → Bool} (hx : ∀ l, l < ν.ln → bt x l = go l) : ∃ I', mX3_book N x b I = some I' ∧ Fr [47] I I' ∧ ∀ l, l < ν.ln → I' 47 l = if go l = true then I 47 l + b else I 47 l := by
  have hln := hn.2.2.1
  obtain ⟨I', hP, e⟩ := loopP (F := fun n s i => mX3_book_2 x b n i s) (b := ν.ln) (out := id)
    (P := fun k s => Fr [47] I s ∧ (∀ l, l < k → s 47 l = if go l = true then I 47 l + b else I 47 l) ∧ ∀ l, k ≤ l → s 47 l = I 47 l)
    (fun n s hP => by
      show mX3_book_2 x b (n + 1) (nI ν.ln) s = some s
      rw [mX3_book_2, (hI.fr hP.1 (by simp)).2.1, if_pos (nI_le (Nat.le_refl _) (by omega))])
    (fun n k s hk hP => by
      obtain ⟨f, p1, p2⟩ := hP
      by_cases hb : go k = true
      · refine ⟨upd2 s 47 k (I 47 k + b), ?_, f.u2 (by simp), fun l hl => ?_, fun l hl => by rw [u2_ne (by omega)]; exact p2 l (by omega)⟩
        · show mX3_book_2 x b (n + 1) (nI k) s = mX3_book_2 x b n (nI (k + 1)) _
          rw [mX3_book_2, (hI.fr f (by simp)).2.1, if_neg (nI_ge hk (by omega)), if_neg (fun e => by rw [cb0 (by omega), hx k hk, hb] at e; cases e), ck_n (by omega) (by decide), nI_clamp (by omega), p2 k (Nat.le_refl _), nI_1]
        · by_cases e : l = k
          · subst e; rw [u2_at, if_pos hb]
          · rw [u2_ne (by omega)]; exact p1 l (by omega)
      · have hb' : go k = false := by simpa using hb
        refine ⟨s, ?_, f, fun l hl => ?_, fun l hl => p2 l (by omega)⟩
        · show mX3_book_2 x b (n + 1) (nI k) s = mX3_book_2 x b n (nI (k + 1)) _
          rw [mX3_book_2, (hI.fr f (by simp)).2.1, if_neg (nI_ge hk (by omega)), if_pos ((cb0 (by omega) _).mpr (by rw [hx k hk]; exact hb')), nI_1]
        · by_cases e : l = k
          · subst e; rw [if_neg hb]; exact p2 l (Nat.le_refl _)
          · exact p1 l (by omega))
    N 0 I (Nat.zero_le _) (by omega) ⟨Fr.rf, fun l hl => by omega, fun _ _ => rfl⟩
  refine ⟨I', ?_, hP.1, fun l hl => hP.2.1 l hl⟩
  unfold mX3_book
  rw [show mX3_book_2 x b N 0 I = _ from e, ob_some]
  rfl
/-- what is taken, those of B broken, those of s moved -/
def TkC (ν : Nt) (σ π : St) (B s : Nat) (I : gI) : Prop := ∀ l, l < ν.ln → I 47 l = zI (ldB ν σ π B s 0 l)
theorem pl_ld (hn : WfN ν) {l : Nat} : (ν.L l 3 : Int) - pl ν σ 99 l 7 = ldB ν σ π 0 0 0 l := by
  unfold pl ldB
  have : sm (fun i => if i ≠ 99 ∧ ν.T i 4 ≤ 7 ∧ l ∈ σ.w i then (σ.bd i : Int) else 0) ν.tn = sm (fun i => if onB σ π 0 0 0 l i = true then (σ.bd i : Int) else 0) ν.tn := by
    apply sm_congr
    intro i hi
    have h9 := hn.2.2.2.1
    have hT := hn.2.2.2.2.2 i hi
    show (if i ≠ 99 ∧ ν.T i 4 ≤ 7 ∧ l ∈ σ.w i then (σ.bd i : Int) else 0) = (if onB σ π 0 0 0 l i = true then (σ.bd i : Int) else 0)
    unfold onB
    rw [Nat.zero_testBit]
    by_cases h : l ∈ σ.w i
    · rw [if_pos ⟨by omega, by omega, h⟩, if_pos (by simp [h])]
    · rw [if_neg (fun e => h e.2.2), if_neg (by simp [h])]
  omega
theorem ld_B {B l : Nat} : ldB ν σ π B 0 0 l = ldB ν σ π 0 0 0 l - sm (fun i => if B.testBit i = true ∧ l ∈ σ.w i then (σ.bd i : Int) else 0) ν.tn := by
  have : ldB ν σ π B 0 0 l + sm (fun i => if B.testBit i = true ∧ l ∈ σ.w i then (σ.bd i : Int) else 0) ν.tn = ldB ν σ π 0 0 0 l := by
    unfold ldB
    rw [← sm_add]
    apply sm_congr
    intro i hi
    show (if onB σ π B 0 0 l i = true then (σ.bd i : Int) else 0) + (if B.testBit i = true ∧ l ∈ σ.w i then (σ.bd i : Int) else 0) = (if onB σ π 0 0 0 l i = true then (σ.bd i : Int) else 0)
    unfold onB
    rw [Nat.zero_testBit]
    cases hB : B.testBit i <;> by_cases h : l ∈ σ.w i <;> simp [h]
  omega
set_option maxHeartbeats 1000000 in
theorem c_count (hn : WfN ν) (h : RC ν σ π I) (hw : WfW ν σ) (hN : 100 ≤ N) (B : Nat) : ∃ I', mX3_countTaken N (nI B) I = some I' ∧ Fr [47] I I' ∧ TkC ν σ π B 0 I' := by
  have hln := hn.2.2.1
  have htn := hn.2.2.2.1
  obtain ⟨I1, hP, e⟩ := loopP (F := fun n s i => mX3_countTaken_2 N (nI B) n i s) (b := ν.ln) (out := id)
    (P := fun k s => Fr [47] I s ∧ ∀ l, l < k → s 47 l = zI (ldB ν σ π 0 0 0 l))
    (fun n s hP => by
      show mX3_countTaken_2 N (nI B) (n + 1) (nI ν.ln) s = some s
      rw [mX3_countTaken_2, (h.1.fr hP.1 (by simp)).2.1, if_pos (nI_le (Nat.le_refl _) (by omega))])
    (fun n k s hk hP => by
      obtain ⟨f, p1⟩ := hP
      have hs := h.fr f (by simp)
      refine ⟨upd2 s 47 k (zI (ldB ν σ π 0 0 0 k)), ?_, f.u2 (by simp), fun l hl => ?_⟩
      · show mX3_countTaken_2 N (nI B) (n + 1) (nI k) s = mX3_countTaken_2 N (nI B) n (nI (k + 1)) _
        rw [mX3_countTaken_2, hs.1.2.1, if_neg (nI_ge hk (by omega)), c_taken hn hs.1 hs.2.1 hw hN hk, ob_some, ck_n (by omega) (by decide), nI_clamp (by omega), pl_ld (π := π) hn, nI_1]
      · by_cases e : l = k
        · subst e; rw [u2_at]
        · rw [u2_ne (by omega)]; exact p1 l (by omega))
    N 0 I (Nat.zero_le _) (by omega) ⟨Fr.rf, fun l hl => by omega⟩
  obtain ⟨f1, t1⟩ := hP
  obtain ⟨I2, hP2, e2⟩ := loopP (F := fun n s i => mX3_countTaken_35 N (nI B) n i s) (b := ν.tn) (out := id)
    (P := fun k s => Fr [47] I s ∧ ∀ l, l < ν.ln → s 47 l = zI (ldB ν σ π 0 0 0 l - sm (fun i => if B.testBit i = true ∧ l ∈ σ.w i then (σ.bd i : Int) else 0) k))
    (fun n s hP => by
      show mX3_countTaken_35 N (nI B) (n + 1) (nI ν.tn) s = some s
      rw [mX3_countTaken_35, (h.1.fr hP.1 (by simp)).2.2.1, if_pos (nI_le (Nat.le_refl _) (by omega))])
    (fun n k s hk hP => by
      obtain ⟨f, p1⟩ := hP
      have hs := h.fr f (by simp)
      by_cases hb : B.testBit k = true
      · obtain ⟨s2, es, fs, ts⟩ := c_book (N := N) (x := wb (σ.w k)) (b := -(nI (σ.bd k))) (go := fun l => decide (l ∈ σ.w k)) hn hs.1 hN (fun l hl => wb_t hn hw hk (by omega))
        refine ⟨s2, ?_, f.tr fs, fun l hl => ?_⟩
        · show mX3_countTaken_35 N (nI B) (n + 1) (nI k) s = mX3_countTaken_35 N (nI B) n (nI (k + 1)) _
          rw [mX3_countTaken_35, hs.1.2.2.1, if_neg (nI_ge hk (by omega)), if_neg (fun e => by rw [cb0 (by omega), b_nI (by omega), hb] at e; cases e), ck_n (by omega) (by decide), nI_clamp (by omega), show s 37 k = wb (σ.w k) from (hs.2.1.2 k hk).1, show s 38 k = nI (σ.bd k) from (hs.2.1.2 k hk).2, es, ob_some, nI_1]
        · rw [ts l hl, p1 l hl, sm]
          by_cases hm : l ∈ σ.w k
          · rw [if_pos (decide_eq_true hm), if_pos ⟨hb, hm⟩, zI_addneg]
            congr 1
            omega
          · rw [if_neg (by simp [hm]), if_neg (fun e => hm e.2)]
            congr 1
            omega
      · refine ⟨s, ?_, f, fun l hl => ?_⟩
        · show mX3_countTaken_35 N (nI B) (n + 1) (nI k) s = mX3_countTaken_35 N (nI B) n (nI (k + 1)) _
          rw [mX3_countTaken_35, hs.1.2.2.1, if_neg (nI_ge hk (by omega)), if_pos ((cb0 (by omega) _).mpr (by rw [b_nI (by omega)]; simpa using hb)), nI_1]
        · rw [p1 l hl, sm, if_neg (fun e => hb e.1)]
          congr 1
          omega)
    N 0 I1 (Nat.zero_le _) (by omega) ⟨f1, fun l hl => by rw [t1 l hl, sm, Int.sub_zero]⟩
  refine ⟨I2, ?_, hP2.1, fun l hl => by rw [hP2.2 l hl, ld_B (B := B)]⟩
  unfold mX3_countTaken
  rw [show mX3_countTaken_2 N (nI B) N 0 I = some I1 from e, ob_some, show mX3_countTaken_35 N (nI B) N 0 I1 = some I2 from e2, ob_some]
theorem b_gain (hn : WfN ν) (hw : WfW ν σ) (hwp : WfW ν π) {t l : Nat} (ht : t < ν.tn) (hl : l < ν.ln) : bt (wb (π.w t) &&& (wb (σ.w t) ^^^ (-1))) l = decide (l ∈ π.w t ∧ ¬ l ∈ σ.w t) := by
  have hln := hn.2.2.1
  rw [b_not (by omega), wb_t hn hwp ht (by omega), wb_t hn hw ht (by omega)]
  by_cases h1 : l ∈ π.w t <;> by_cases h2 : l ∈ σ.w t <;> simp [h1, h2]
theorem c_may (hn : WfN ν) (h : RC ν σ π I) (hw : WfW ν σ) (hwp : WfW ν π) (hN : 100 ≤ N) {B s t : Nat} (ht : t < ν.tn) (hB : B.testBit t = false) (hs : s.testBit t = false) (hT : TkC ν σ π B s I) (hb : bkd ν σ π B s 0 = true) : mX3_mayMove N (nI t) I = some (if bkd ν σ π B s (2 ^ t) = true then 1 else 0) := by
  have hln := hn.2.2.1
  have htn := hn.2.2.2.1
  have h9 := loopR (F := fun n (_ : Unit) i => mX3_mayMove_24 (nI t) (wb (π.w t) &&& (wb (σ.w t) ^^^ (-1))) I n i) (b := ν.ln) (out := fun _ => Sum.inl ()) (Qr := fun r => r = .inr 0 ∧ ¬ bkd ν σ π B s (2 ^ t) = true)
    (P := fun k _ => ∀ l, l < k → ldB ν σ π B s (2 ^ t) l ≤ (ν.L l 3 : Int))
    (fun n _ _ => by
      show mX3_mayMove_24 (nI t) _ I (n + 1) (nI ν.ln) = _
      rw [mX3_mayMove_24, h.1.2.1, if_pos (nI_le (Nat.le_refl _) (by omega))])
    (fun n k _ hk hP => by
      have hbd := ldB_bd (π := π) (B := B) (s := s) (u := 0) (l := k) hn hw
      have hL := hn.2.2.2.2.1 k hk
      have hb99 := (hw t ht).1
      have hle := bkd_iff.mp hb k hk
      have hu := ldB_u (σ := σ) (π := π) (l := k) ht hB hs
      have key : mX3_mayMove_24 (nI t) (wb (π.w t) &&& (wb (σ.w t) ^^^ (-1))) I (n + 1) (nI k) = if ldB ν σ π B s (2 ^ t) k ≤ (ν.L k 3 : Int) then mX3_mayMove_24 (nI t) (wb (π.w t) &&& (wb (σ.w t) ^^^ (-1))) I n (nI (k + 1)) else some (.inr 0) := by
        rw [mX3_mayMove_24, h.1.2.1, if_neg (nI_ge hk (by omega)), ck_n (by omega) (by decide), ck_n (by omega) (by decide), nI_clamp (by omega), nI_clamp (by omega), hT k hk, show I 38 t = nI (σ.bd t) from (h.2.1.2 t ht).2, show I 6 k = nI (ν.L k 3) from h.1.2.2.2.1 k hk 3 (by decide), zI_addn, ← zI_nat, nI_1]
        by_cases hc : ldB ν σ π B s 0 k + (σ.bd t : Int) ≤ (ν.L k 3 : Int)
        · rw [if_pos ((zI_le ⟨by omega, by omega⟩ ⟨by omega, by omega⟩).mpr hc), ob_some, if_pos rfl, if_pos (by
            rw [hu]
            split <;> omega)]
        · rw [if_neg (fun h => hc ((zI_le ⟨by omega, by omega⟩ ⟨by omega, by omega⟩).mp h)), ob_some, if_neg (show ¬ (1 : Int32) = 0 by decide)]
          by_cases hg : k ∈ π.w t ∧ ¬ k ∈ σ.w t
          · rw [if_neg (fun e => by rw [cb0 (by omega), b_gain hn hw hwp ht hk] at e; simp [hg] at e), if_neg (by
              rw [hu, if_pos hg]
              omega)]
          · rw [if_pos ((cb0 (by omega) _).mpr (by rw [b_gain hn hw hwp ht hk]; exact decide_eq_false hg)), if_pos (by
              rw [hu, if_neg hg]
              omega)]
      by_cases hc : ldB ν σ π B s (2 ^ t) k ≤ (ν.L k 3 : Int)
      · refine Or.inl ⟨(), by show mX3_mayMove_24 _ _ _ (n + 1) (nI k) = _; rw [key, if_pos hc], fun l hl => ?_⟩
        by_cases he : l = k
        · subst he; exact hc
        · exact hP l (by omega)
      · exact Or.inr ⟨_, by show mX3_mayMove_24 _ _ _ (n + 1) (nI k) = _; rw [key, if_neg hc], rfl, fun h => hc (bkd_iff.mp h k hk)⟩)
    N 0 () (Nat.zero_le _) (by omega) (fun l h => by omega)
  unfold mX3_mayMove
  rw [ck_n (by omega) (by decide), nI_clamp (by omega), nm_n, show I 45 t = wb (π.w t) from (h.2.2.2 t ht).1, show I 37 t = wb (σ.w t) from (h.2.1.2 t ht).1]
  rcases h9 with ⟨-, hP, e⟩ | ⟨r, e, rfl, h2⟩
  · rw [show mX3_mayMove_24 (nI t) (wb (π.w t) &&& (wb (σ.w t) ^^^ (-1))) I N 0 = _ from e, lb_l, if_pos (bkd_iff.mpr hP)]
  · rw [show mX3_mayMove_24 (nI t) (wb (π.w t) &&& (wb (σ.w t) ^^^ (-1))) I N 0 = _ from e, lb_r, if_neg h2]
/-- sets that were stuck in this search -/
def MmC (ν : Nt) (σ π : St) (B A m : Nat) (I : gI) : Prop := I 43 8 = nI m ∧ ∀ x, x < 512 → ∃ k, k ≤ m ∧ I 49 x = nI k ∧ (k = m → sub9 x A → ¬ Cn ν σ π B A (A ^^^ x))
theorem MmC.fr {X : List Nat} {B A m : Nat} {I' : gI} (h : MmC ν σ π B A m I) (f : Fr X I I') (h1 : 43 ∉ X) (h2 : 49 ∉ X) : MmC ν σ π B A m I' := by
  unfold MmC
  rw [f 43 h1, f 49 h2]
  exact h
theorem xor_tb {A x i : Nat} : (A ^^^ x).testBit i = (A.testBit i != x.testBit i) := by rw [Nat.testBit_xor]
theorem xor_clr {A x t : Nat} (hA : A.testBit t = true) (hx : x.testBit t = true) : A ^^^ clr x t = (A ^^^ x) ||| 2 ^ t := by
  apply Nat.eq_of_testBit_eq
  intro i
  rw [Nat.testBit_or, xor_tb, xor_tb, clr_tb hx, Nat.testBit_two_pow]
  by_cases e : t = i
  · subst e; simp [hA]
  · have : ¬ i = t := fun h => e h.symm
    simp [e, this]
/-- one more is moved -/
theorem c_step (hn : WfN ν) (h : RC ν σ π I) (hw : WfW ν σ) (hwp : WfW ν π) (hN : 100 ≤ N) {B s t : Nat} (ht : t < ν.tn) (hB : B.testBit t = false) (hs : s.testBit t = false) (hT : TkC ν σ π B s I) : ∃ I1 I2, mX3_book N (wb (π.w t) &&& (wb (σ.w t) ^^^ (-1))) (nI (σ.bd t)) I = some I1 ∧ mX3_book N (wb (σ.w t) &&& (wb (π.w t) ^^^ (-1))) (-(nI (σ.bd t))) I1 = some I2 ∧ Fr [47] I I1 ∧ Fr [47] I I2 ∧ TkC ν σ π B (s ||| 2 ^ t) I2 := by
  obtain ⟨I1, e1, f1, t1⟩ := c_book (N := N) (b := nI (σ.bd t)) hn h.1 hN (fun l hl => b_gain hn hw hwp ht hl)
  obtain ⟨I2, e2, f2, t2⟩ := c_book (N := N) (b := -(nI (σ.bd t))) hn (h.1.fr f1 (by simp)) hN (fun l hl => b_gain hn hwp hw ht hl)
  refine ⟨I1, I2, e1, e2, f1, f1.tr f2, fun l hl => ?_⟩
  rw [t2 l hl, t1 l hl, hT l hl, ldB_s ht hB hs]
  by_cases h1 : l ∈ π.w t ∧ ¬ l ∈ σ.w t
  · have h2 : ¬ (l ∈ σ.w t ∧ ¬ l ∈ π.w t) := fun h => h1.2 h.1
    rw [if_neg (by simp [h2]), if_pos (decide_eq_true h1), zI_addn, if_pos h1, if_neg h2, Int.sub_zero]
  · rw [if_neg (show ¬ decide (l ∈ π.w t ∧ ¬ l ∈ σ.w t) = true from fun e => h1 (of_decide_eq_true e)), if_neg h1]
    by_cases h2 : l ∈ σ.w t ∧ ¬ l ∈ π.w t
    · rw [if_pos (decide_eq_true h2), zI_addneg, if_pos h2, Int.add_zero]
    · rw [if_neg (show ¬ decide (l ∈ σ.w t ∧ ¬ l ∈ π.w t) = true from fun e => h2 (of_decide_eq_true e)), if_neg h2, Int.add_zero, Int.sub_zero]
theorem c_unstep (hn : WfN ν) (h : RC ν σ π I) (hw : WfW ν σ) (hwp : WfW ν π) (hN : 100 ≤ N) {B s t : Nat} (ht : t < ν.tn) (hB : B.testBit t = false) (hs : s.testBit t = false) (hT : TkC ν σ π B (s ||| 2 ^ t) I) : ∃ I1 I2, mX3_book N (wb (π.w t) &&& (wb (σ.w t) ^^^ (-1))) (-(nI (σ.bd t))) I = some I1 ∧ mX3_book N (wb (σ.w t) &&& (wb (π.w t) ^^^ (-1))) (nI (σ.bd t)) I1 = some I2 ∧ Fr [47] I I1 ∧ Fr [47] I I2 ∧ TkC ν σ π B s I2 := by
  obtain ⟨I1, e1, f1, t1⟩ := c_book (N := N) (b := -(nI (σ.bd t))) hn h.1 hN (fun l hl => b_gain hn hw hwp ht hl)
  obtain ⟨I2, e2, f2, t2⟩ := c_book (N := N) (b := nI (σ.bd t)) hn (h.1.fr f1 (by simp)) hN (fun l hl => b_gain hn hwp hw ht hl)
  refine ⟨I1, I2, e1, e2, f1, f1.tr f2, fun l hl => ?_⟩
  rw [t2 l hl, t1 l hl, hT l hl, ldB_s ht hB hs]
  by_cases h1 : l ∈ π.w t ∧ ¬ l ∈ σ.w t
  · have h2 : ¬ (l ∈ σ.w t ∧ ¬ l ∈ π.w t) := fun h => h1.2 h.1
    rw [if_neg (show ¬ decide (l ∈ σ.w t ∧ ¬ l ∈ π.w t) = true from fun e => h2 (of_decide_eq_true e)), if_pos (decide_eq_true h1), if_pos h1, if_neg h2, zI_addneg]
    congr 1
    omega
  · rw [if_neg (show ¬ decide (l ∈ π.w t ∧ ¬ l ∈ σ.w t) = true from fun e => h1 (of_decide_eq_true e)), if_neg h1]
    by_cases h2 : l ∈ σ.w t ∧ ¬ l ∈ π.w t
    · rw [if_pos (decide_eq_true h2), if_pos h2, zI_addn]
      congr 1
      omega
    · rw [if_neg (show ¬ decide (l ∈ σ.w t ∧ ¬ l ∈ π.w t) = true from fun e => h2 (of_decide_eq_true e)), if_neg h2, Int.add_zero, Int.sub_zero]
/-- what a search gives -/
def SrR (ν : Nt) (σ π : St) (B A m s dep : Nat) (I : gI) (r : Int32) (I' : gI) : Prop := Fr [47, 48, 49] I I' ∧ MmC ν σ π B A m I' ∧ ((r = 0 ∧ TkC ν σ π B s I' ∧ ¬ Cn ν σ π B A s) ∨ (r = 1 ∧ ∃ row, fR ν σ π B A s row ∧ ∀ j, (hj : j < row.length) → I' 48 (dep + j) = nI row[j]))
set_option maxHeartbeats 2000000 in
theorem c_rest (hn : WfN ν) (hw : WfW ν σ) (hwp : WfW ν π) (hN : 100 ≤ N) {B A m : Nat} (hm : m < 2147483648) (hA : A < 512) (hAt : ∀ t, A.testBit t = true → t < ν.tn ∧ B.testBit t = false) : ∀ (D x dep : Nat) (I : gI), pcn x < D → sub9 x A → dep + pcn x ≤ 9 → RC ν σ π I → TkC ν σ π B (A ^^^ x) I → bkd ν σ π B (A ^^^ x) 0 = true → MmC ν σ π B A m I → ∃ r I', mX3_moveRest N D (nI x) (nI dep) I = some (r, I') ∧ SrR ν σ π B A m (A ^^^ x) dep I r I' := by
  have htn := hn.2.2.2.1
  intro D
  induction D with
  | zero => intro x dep I h; omega
  | succ D ih =>
    intro x dep I hD hx hdep hR hT hb hM
    have hx512 : x < 512 := by have := sub9_le hx; omega
    by_cases h0 : x = 0
    · subst h0
      refine ⟨1, I, by rw [mX3_moveRest, if_pos (show nI 0 = 0 from rfl)], Fr.rf, hM, Or.inr ⟨rfl, [], ?_, fun j hj => by cases hj⟩⟩
      exact Nat.xor_zero A
    · have hp1 : 1 ≤ pcn x := by
        rcases Nat.eq_zero_or_pos (pcn x) with h | h
        · exact absurd (pcn_0 x hx512 h) h0
        · exact h
      obtain ⟨k, k1, k2, k3⟩ := hM.2 x hx512
      have hneA : A ^^^ x ≠ A := fun e => h0 (by
        apply Nat.eq_of_testBit_eq
        intro i
        have := congrArg (fun y : Nat => y.testBit i) e
        rw [xor_tb] at this
        rw [Nat.zero_testBit]
        cases h1 : A.testBit i <;> cases h2 : x.testBit i <;> simp_all)
      have hd : mX3_moveRest N (D + 1) (nI x) (nI dep) I = if nI k = nI m then some (0, I) else (lbind (mX3_moveRest_29 N (mX3_moveRest N D) (nI x) (nI dep) N 0 I) (fun I28 => ck (nI x) 512 (some (0, upd2 I28 49 (nI x).toNatClampNeg (I28 43 8)))) (fun (r32, I33) => some (r32, I33))) := by
        rw [mX3_moveRest, if_neg (fun e => h0 ((nI_eq0 (by omega)).mp e)), if_neg (show ¬ (9 : Int32) ≤ nI dep from nI_ge (b := 9) (by omega) (by omega)), ck_n hx512 (by decide), nI_clamp (by omega), k2, hM.1]
      by_cases hkm : k = m
      · refine ⟨0, I, by rw [hd, if_pos (by rw [hkm])], Fr.rf, hM, Or.inl ⟨rfl, hT, k3 hkm hx⟩⟩
      · rw [hd, if_neg (fun e => hkm ((nI_eq (by omega) (by omega)).mp e))]
        have h9 := loopR (F := fun n K i => mX3_moveRest_29 N (mX3_moveRest N D) (nI x) (nI dep) n i K) (b := ν.tn) (out := fun K => Sum.inl K) (Qr := fun r => ∃ I', r = .inr (1, I') ∧ SrR ν σ π B A m (A ^^^ x) dep I 1 I')
          (P := fun k K => Fr [47, 48, 49] I K ∧ TkC ν σ π B (A ^^^ x) K ∧ MmC ν σ π B A m K ∧ ∀ o, o < k → ¬ okT ν σ π B A (A ^^^ x) o)
          (fun n K hP => by
            show mX3_moveRest_29 N (mX3_moveRest N D) (nI x) (nI dep) (n + 1) (nI ν.tn) K = some (.inl K)
            rw [mX3_moveRest_29, (hR.fr hP.1 (by simp)).1.2.2.1, if_pos (nI_le (Nat.le_refl _) (by omega))])
          (fun n t K ht hP => by
            obtain ⟨f, p1, p2, p3⟩ := hP
            have hRK := hR.fr f (by simp)
            have skip : ¬ okT ν σ π B A (A ^^^ x) t → ∀ o, o < t + 1 → ¬ okT ν σ π B A (A ^^^ x) o := fun hno o ho => by
              by_cases e : o = t
              · rw [e]; exact hno
              · exact p3 o (by omega)
            show (∃ s', mX3_moveRest_29 N (mX3_moveRest N D) (nI x) (nI dep) (n + 1) (nI t) K = mX3_moveRest_29 N (mX3_moveRest N D) (nI x) (nI dep) n (nI (t + 1)) s' ∧ _) ∨ ∃ r, mX3_moveRest_29 N (mX3_moveRest N D) (nI x) (nI dep) (n + 1) (nI t) K = some r ∧ _
            by_cases hxt : x.testBit t = true
            · have hAt' := hx t hxt
              obtain ⟨-, hBt⟩ := hAt t hAt'
              have hst : (A ^^^ x).testBit t = false := by rw [xor_tb, hAt', hxt]; rfl
              have hmay := c_may (N := N) hn hRK hw hwp hN ht hBt hst p1 hb
              have e37 : K 37 t = wb (σ.w t) := (hRK.2.1.2 t ht).1
              have e45 : K 45 t = wb (π.w t) := (hRK.2.2.2 t ht).1
              have e38 : K 38 t = nI (σ.bd t) := (hRK.2.1.2 t ht).2
              by_cases hbk : bkd ν σ π B (A ^^^ x) (2 ^ t) = true
              · rw [if_pos hbk] at hmay
                obtain ⟨I15, I17, e15, e17, f15, f17, t17⟩ := c_step (N := N) hn hRK hw hwp hN ht hBt hst p1
                have hcl := xor_clr hAt' hxt
                have hpc := pcn_clr (show t < 16 by omega) hxt
                have hR17 := hRK.fr f17 (by simp)
                obtain ⟨r19, I20, e20, f20, m20, res⟩ := ih (clr x t) (dep + 1) I17 (by omega) (fun i hi => by rw [clr_tb hxt] at hi; simp at hi; exact hx i hi.1) (by omega) hR17 (by rw [hcl]; exact t17) (by rw [hcl]; exact bkd_next hw ht hBt hst hbk) (p2.fr f17 (by simp) (by simp))
                have hd2 : mX3_moveRest_29 N (mX3_moveRest N D) (nI x) (nI dep) (n + 1) (nI t) K = if r19 = 0 then (Option.bind (mX3_book N (wb (π.w t) &&& (wb (σ.w t) ^^^ (-1))) (-(I20 38 t)) I20) (fun I23 => Option.bind (mX3_book N (wb (σ.w t) &&& (wb (π.w t) ^^^ (-1))) (I23 38 t) I23) (fun I25 => mX3_moveRest_29 N (mX3_moveRest N D) (nI x) (nI dep) n (nI (t + 1)) I25))) else some (.inr (1, upd2 I20 48 dep (nI t))) := by
                  rw [mX3_moveRest_29, hRK.1.2.2.1, if_neg (nI_ge ht (by omega)), if_neg (fun e => by rw [cb0 (by omega), b_nI (by omega), hxt] at e; cases e), hmay, ob_some, if_neg (show ¬ (1 : Int32) = 0 by decide), ck_n (by omega) (by decide), nI_clamp (by omega), nm_n, nm_n, e37, e45, e38, e15, ob_some, f15 38 (by simp), e38, e17, ob_some, clr_nI (by omega) hxt, nI_1, nI_1, e20, ob_some]
                  dsimp only
                  rw [ck_n (by omega) (by decide), nI_clamp (by omega)]
                have fK20 : Fr [47, 48, 49] I I20 := (f.tr (f17.mono (by simp))).tr f20
                rcases res with ⟨rfl, t20, nc⟩ | ⟨rfl, row, hrow, hj⟩
                · left
                  rw [hcl] at t20 nc
                  have hR20 := hR.fr fK20 (by simp)
                  obtain ⟨I23, I25, e23, e25, f23, f25, t25⟩ := c_unstep (N := N) hn hR20 hw hwp hN ht hBt hst t20
                  refine ⟨I25, ?_, fK20.tr (f25.mono (by simp)), t25, m20.fr f25 (by simp) (by simp), skip (fun h => nc h.2.2.2.2)⟩
                  rw [hd2, if_pos rfl, show I20 38 t = nI (σ.bd t) from (hR20.2.1.2 t ht).2, e23, ob_some, f23 38 (by simp), show I20 38 t = nI (σ.bd t) from (hR20.2.1.2 t ht).2, e25, ob_some]
                · right
                  rw [hcl] at hrow
                  refine ⟨_, by rw [hd2, if_neg (by decide)], upd2 I20 48 dep (nI t), rfl, fK20.u2 (by simp), m20.fr (Fr.rf.u2 (X := [48]) (by simp)) (by simp) (by simp), Or.inr ⟨rfl, t :: row, ⟨⟨ht, hAt', hst, hbk, fR_Cn hrow⟩, p3, hrow⟩, fun j hj' => ?_⟩⟩
                  cases j with
                  | zero => exact u2_at
                  | succ j =>
                    rw [u2_ne (by omega)]
                    have := hj j (by rw [List.length_cons] at hj'; omega)
                    rw [show dep + 1 + j = dep + (j + 1) by omega] at this
                    exact this
              · left
                rw [if_neg hbk] at hmay
                refine ⟨K, ?_, f, p1, p2, skip (fun h => hbk h.2.2.2.1)⟩
                rw [mX3_moveRest_29, hRK.1.2.2.1, if_neg (nI_ge ht (by omega)), if_neg (fun e => by rw [cb0 (by omega), b_nI (by omega), hxt] at e; cases e), hmay, ob_some, if_pos rfl, nI_1]
            · left
              have hxt' : x.testBit t = false := by simpa using hxt
              refine ⟨K, ?_, f, p1, p2, skip (fun h => ?_)⟩
              · rw [mX3_moveRest_29, hRK.1.2.2.1, if_neg (nI_ge ht (by omega)), if_pos ((cb0 (by omega) _).mpr (by rw [b_nI (by omega)]; exact hxt')), nI_1]
              · have := h.2.2.1
                rw [xor_tb, h.2.1, hxt'] at this
                cases this)
          N 0 I (Nat.zero_le _) (by omega) ⟨Fr.rf, hT, hM, fun o ho => by omega⟩
        rcases h9 with ⟨K, ⟨f, p1, p2, p3⟩, e⟩ | ⟨r, e, I', rfl, hS⟩
        · have hnc : ¬ Cn ν σ π B A (A ^^^ x) := fun hc => by
            rcases Cn_iff.mp hc with h | ⟨t, h⟩
            · exact hneA h
            · exact p3 t h.1 h
          refine ⟨0, upd2 K 49 x (nI m), ?_, f.u2 (by simp), ⟨by rw [u2_c (by decide)]; exact p2.1, fun y hy => ?_⟩, Or.inl ⟨rfl, fun l hl => by rw [u2_c (by decide)]; exact p1 l hl, hnc⟩⟩
          · rw [show mX3_moveRest_29 N (mX3_moveRest N D) (nI x) (nI dep) N 0 I = _ from e, lb_l, ck_n hx512 (by decide), nI_clamp (by omega), p2.1]
          · by_cases ey : y = x
            · subst ey
              exact ⟨m, Nat.le_refl _, u2_at, fun _ _ => hnc⟩
            · rw [u2_ne (by omega)]
              exact p2.2 y hy
        · exact ⟨1, I', by rw [show mX3_moveRest_29 N (mX3_moveRest N D) (nI x) (nI dep) N 0 I = _ from e, lb_r], hS⟩
/-- whether all of A can be moved, those of B broken -/
theorem c_can (hn : WfN ν) (g : Gd ν σ) (hwp : WfW ν π) (hN : 100 ≤ N) {B A m : Nat} (hm : m + 1 < 2147483648) (hA : A < 512) (hAt : ∀ t, A.testBit t = true → t < ν.tn ∧ B.testBit t = false) (hR : RC ν σ π I) (h8 : I 43 8 = nI m) (h49 : ∀ x, x < 512 → ∃ k, k ≤ m ∧ I 49 x = nI k) : ∃ r I', mX3_canMove N (nI A) (nI B) I = some (r, I') ∧ Fr [43, 47, 48, 49] I I' ∧ I' 43 8 = nI (m + 1) ∧ (∀ x, x < 512 → ∃ k, k ≤ m + 1 ∧ I' 49 x = nI k) ∧ ((r = 0 ∧ ¬ Cn ν σ π B A 0) ∨ (r = 1 ∧ ∃ row, fR ν σ π B A 0 row ∧ ∀ j, (hj : j < row.length) → I' 48 j = nI row[j])) := by
  have hw := g.wf hn
  have f1 : Fr [43] I (upd2 I 43 8 (nI (m + 1))) := Fr.rf.u2 (by simp)
  have hR1 := hR.fr f1 (by simp)
  obtain ⟨I2, e2, f2, t2⟩ := c_count (N := N) hn hR1 hw hN B
  have hR2 := hR1.fr f2 (by simp)
  have hAA : A ^^^ A = 0 := Nat.xor_self A
  have hp9 : pcn A ≤ 9 := (by decide +kernel : ∀ a, a < 512 → pcn a ≤ 9) A hA
  have hb0 : bkd ν σ π B 0 0 = true := by
    rw [bkd_iff]
    intro l hl
    have h1 := g.2 l hl
    have h2 := pl_ld (σ := σ) (π := π) (l := l) hn
    have h3 := ld_B (ν := ν) (σ := σ) (π := π) (B := B) (l := l)
    have h4 := (sm_bd (n := ν.tn) (B := 99) (f := fun i => if B.testBit i = true ∧ l ∈ σ.w i then (σ.bd i : Int) else 0) (fun k hk => by
      have := (hw k hk).1
      show 0 ≤ (if B.testBit k = true ∧ l ∈ σ.w k then (σ.bd k : Int) else 0) ∧ (if B.testBit k = true ∧ l ∈ σ.w k then (σ.bd k : Int) else 0) ≤ (99 : Nat)
      split <;> omega)).1
    omega
  have hM2 : MmC ν σ π B A (m + 1) I2 := by
    refine ⟨by rw [f2 43 (by simp), u2_at], fun x hx => ?_⟩
    obtain ⟨k, k1, k2⟩ := h49 x hx
    exact ⟨k, by omega, by rw [f2 49 (by simp), u2_c (by decide)]; exact k2, fun h => by omega⟩
  obtain ⟨r, I', e, f, m', res⟩ := c_rest (N := N) (m := m + 1) hn hw hwp hN hm hA hAt 12 A 0 I2 (by omega) (fun _ h => h) (by omega) hR2 (by rw [hAA]; exact t2) (by rw [hAA]; exact hb0) hM2
  rw [hAA] at res
  refine ⟨r, I', ?_, ((f1.mono (by simp)).tr (f2.mono (by simp))).tr (f.mono (by simp)), m'.1, fun x hx => ?_, ?_⟩
  · have hr : r = 0 ∨ r = 1 := by
      rcases res with h | h
      · exact Or.inl h.1
      · exact Or.inr h.1
    unfold mX3_canMove
    rw [h8, nI_1, e2, ob_some, show mX3_moveRest N 12 (nI A) 0 I2 = _ from e, ob_some]
    rcases hr with rfl | rfl
    · exact zo_0
    · exact zo_1
  · obtain ⟨k, k1, k2, -⟩ := m'.2 x hx
    exact ⟨k, k1, k2⟩
  · rcases res with ⟨h1, -, h3⟩ | ⟨h1, row, h2, h3⟩
    · exact Or.inl ⟨h1, h3⟩
    · exact Or.inr ⟨h1, row, h2, fun j hj => by have := h3 j hj; rwa [Nat.zero_add] at this⟩
end CRow
