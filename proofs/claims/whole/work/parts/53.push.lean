/-! the class: whom a tunnel pushes out -/
section Push
variable {ν : Nt} {σ : St} {I : gI} {N u : Nat}
theorem sm_ge1 {f : Nat → Int} {j : Nat} : ∀ {n : Nat}, (∀ k, k < n → 0 ≤ f k) → j < n → f j ≤ sm f n
  | n + 1, h, hj => by
    rw [sm]
    have h0 : ∀ m, m ≤ n → 0 ≤ sm f m := by
      intro m
      induction m with
      | zero => intro _; exact Int.le_refl _
      | succ m ih => intro hm; rw [sm]; have := ih (by omega); have := h m (by omega); omega
    by_cases e : j = n
    · subst e; have := h0 j (Nat.le_refl _); omega
    · have := sm_ge1 (n := n) (fun k hk => h k (by omega)) (show j < n by omega)
      have := h n (by omega)
      omega
theorem sS_split (f : Nat → Int) (s W : Nat) : sS ν f s = sS ν f (s &&& W) + sm (fun o => if s.testBit o = true ∧ W.testBit o = false then f o else 0) ν.tn := by
  unfold sS
  rw [← sm_add]
  apply sm_congr
  intro k _
  rw [Nat.testBit_and]
  cases h1 : s.testBit k <;> cases h2 : W.testBit k <;> simp
theorem cst_bd (hn : WfN ν) (hw : WfW ν σ) {o : Nat} (ho : o < ν.tn) : 17000 ≤ cst ν σ o ∧ cst ν σ o ≤ 129099 := by
  have h1 := hn.2.2.2.2.2 o ho
  have h2 := (hw o ho).1
  unfold cst
  omega
theorem cst_sm (hn : WfN ν) (hw : WfW ν σ) (s : Nat) : 0 ≤ sS ν (cst ν σ) s ∧ sS ν (cst ν σ) s ≤ 1161891 := by
  have h1 := sS_bd (ν := ν) (B := 129099) (f := cst ν σ) (fun o ho => by have := cst_bd hn hw ho; omega) s
  have h3 := hn.2.2.2.1
  have h4 : ν.tn * 129099 ≤ 9 * 129099 := Nat.mul_le_mul_right _ h3
  omega
theorem sS_0 (f : Nat → Int) : sS ν f 0 = 0 := by
  unfold sS
  rw [sm_congr (g := fun _ => 0) (fun k _ => by simp)]
  exact sm_0 _
theorem c_over (hn : WfN ν) (hI : NetC ν I) (hs : CS ν u σ I) (hw : WfW ν σ) (hN : 100 ≤ N) {t : Nat} (ht : t < ν.tn) : ∃ x, mX2_overbooked N u (wb (σ.w t)) I = some x ∧ ∀ i, i < 32 → bt x i = (decide (i < ν.ln) && (decide (i ∈ σ.w t) && decide (pl ν σ 99 i 7 < 0))) := by
  have hln := hn.2.2.1
  obtain ⟨x, hP, e⟩ := loopP (F := fun n v i => mX2_overbooked_4 N u (wb (σ.w t)) I n v i) (b := ν.ln) (out := id)
    (P := fun k v => ∀ i, i < 32 → bt v i = (decide (i < k) && (decide (i ∈ σ.w t) && decide (pl ν σ 99 i 7 < 0))))
    (fun n v _ => by
      show mX2_overbooked_4 N u (wb (σ.w t)) I (n + 1) v (nI ν.ln) = some v
      rw [mX2_overbooked_4, hI.2.1, if_pos (nI_le (Nat.le_refl _) (by omega))])
    (fun n k v hk hP => by
      have hb1 := pl_sml (x := 99) (p := 7) hn hw hk
      have key : mX2_overbooked_4 N u (wb (σ.w t)) I (n + 1) v (nI k) = if k ∈ σ.w t ∧ pl ν σ 99 k 7 < 0 then mX2_overbooked_4 N u (wb (σ.w t)) I n (v ||| ((1 : Int32) <<< (nI k &&& 31))) (nI (k + 1)) else mX2_overbooked_4 N u (wb (σ.w t)) I n v (nI (k + 1)) := by
        rw [mX2_overbooked_4, hI.2.1, if_neg (nI_ge hk (by omega)), show (7 : Int32) = nI 7 from rfl, c_pool hn hI hs hw hN (Or.inr ⟨rfl, show 9 ≤ 99 by omega⟩) hk (Nat.le_refl 7), ob_some, nI_1]
        by_cases h1 : k ∈ σ.w t
        · rw [if_neg (fun h => by rw [cb0 (by omega), wb_t hn hw ht (by omega)] at h; simp [h1] at h), show (0 : Int32) = zI 0 from rfl]
          by_cases h2 : pl ν σ 99 k 7 < 0
          · rw [if_neg (fun h => by rw [zI_le ⟨by omega, by omega⟩ ⟨by omega, by omega⟩] at h; omega), if_pos ⟨h1, h2⟩]
          · rw [if_pos (by rw [zI_le ⟨by omega, by omega⟩ ⟨by omega, by omega⟩]; omega), if_neg (fun h => h2 h.2)]
        · rw [if_pos (by rw [cb0 (by omega), wb_t hn hw ht (by omega)]; simp [h1]), if_neg (fun h => h1 h.1)]
      by_cases hc : k ∈ σ.w t ∧ pl ν σ 99 k 7 < 0
      · refine ⟨_, by rw [if_pos hc] at key; exact key, fun i hi => ?_⟩
        rw [b_or, hP i hi, b_sh1 (by omega) hi]
        by_cases h1 : i = k
        · subst h1; simp [hc.1, hc.2]
        · have : (decide (i < k + 1)) = decide (i < k) := by simp; omega
          rw [this]; simp [h1]
      · refine ⟨_, by rw [if_neg hc] at key; exact key, fun i hi => ?_⟩
        rw [hP i hi]
        by_cases h1 : i = k
        · subst h1
          by_cases h2 : i ∈ σ.w t
          · have h3 : ¬ pl ν σ 99 i 7 < 0 := fun h => hc ⟨h2, h⟩
            simp [h3]
          · simp [h2]
        · have : (decide (i < k + 1)) = decide (i < k) := by simp; omega
          rw [this])
    N 0 0 (Nat.zero_le _) (by omega) (fun i _ => by rw [b_0]; simp)
  refine ⟨x, ?_, hP⟩
  unfold mX2_overbooked
  rw [show mX2_overbooked_4 N u (wb (σ.w t)) I N 0 0 = some x from e, ob_some]
/-- one on an overbooked link -/
def wk2 (ν : Nt) (σ : St) (t : Nat) (ov : Int32) (o : Nat) : Bool := decide (ν.T t 3 < ν.T o 4) && (σ.w o).any (fun l => bt ov l)
theorem c_weak (hn : WfN ν) (hI : NetC ν I) (hs : CS ν u σ I) (hw : WfW ν σ) (hN : 100 ≤ N) {t : Nat} {ov : Int32} (ht : t < ν.tn) : mX2_weakerOn N u ov (nI (ν.T t 3)) I = some (nI (mk9 (wk2 ν σ t ov) ν.tn)) := by
  have htn := hn.2.2.2.1
  have hln := hn.2.2.1
  have hTt := hn.2.2.2.2.2 t ht
  obtain ⟨x, hP, e⟩ := loopP (F := fun n v i => mX2_weakerOn_5 u ov (nI (ν.T t 3)) I n v i) (b := ν.tn) (out := id)
    (P := fun k v => v = bm (wk2 ν σ t ov) k)
    (fun n v _ => by
      show mX2_weakerOn_5 u ov (nI (ν.T t 3)) I (n + 1) v (nI ν.tn) = some v
      rw [mX2_weakerOn_5, hI.2.2.1, if_pos (nI_le (Nat.le_refl _) (by omega))])
    (fun n k v hk hP => by
      refine ⟨_, ?_, rfl⟩
      show mX2_weakerOn_5 u ov (nI (ν.T t 3)) I (n + 1) v (nI k) = mX2_weakerOn_5 u ov (nI (ν.T t 3)) I n _ (nI (k + 1))
      have hT := hn.2.2.2.2.2 k hk
      have eb : (wb (σ.w k) &&& ov) = 0 ↔ (σ.w k).any (fun l => bt ov l) = false := by
        constructor
        · intro h
          cases hx : (σ.w k).any (fun l => bt ov l) with
          | false => rfl
          | true =>
            obtain ⟨l, hl, hb⟩ := List.any_eq_true.mp hx
            have hl' := (hw k hk).2.2 l hl
            have : bt (wb (σ.w k) &&& ov) l = bt 0 l := congrArg (fun x => bt x l) h
            rw [b_and, wb_t hn hw hk (by omega), b_0, hb] at this
            simp [hl] at this
        · intro h
          apply b_ext
          intro i hi
          rw [b_and, wb_t hn hw hk hi, b_0]
          by_cases hm : i ∈ σ.w k
          · have := (List.any_eq_false.mp h) i hm
            simp only [Bool.not_eq_true] at this
            rw [this]; simp
          · simp [hm]
      rw [mX2_weakerOn_5, hI.2.2.1, if_neg (nI_ge hk (by omega)), ck_n (by omega) (by decide), nI_clamp (by omega), show I 12 k = nI (ν.T k 4) from hI.2.2.2.2 k hk 4 (by decide), (hs.2 k hk).1, nI_1, bm, hP]
      unfold wk2
      by_cases h1 : ν.T t 3 < ν.T k 4
      · rw [if_neg (nI_ge h1 (by omega))]
        cases h2 : (σ.w k).any (fun l => bt ov l) with
        | false => rw [if_pos (eb.mpr h2)]; simp
        | true => rw [if_neg (fun h => by rw [eb.mp h] at h2; cases h2)]; simp [h1]
      · rw [if_pos (nI_le (by omega) (by omega))]; simp [h1])
    N 0 0 (Nat.zero_le _) (by omega) rfl
  unfold mX2_weakerOn
  rw [show mX2_weakerOn_5 u ov (nI (ν.T t 3)) I N 0 0 = some x from e, ob_some, hP, mk9_bm _ (by omega)]
/-- all weaker ones are enough, where the way fits -/
theorem full_eno (hn : WfN ν) {t : Nat} (ht : t < ν.tn) (hfit : ∀ l ∈ σ.w t, (σ.bd t : Int) ≤ pl ν σ t l (ν.T t 3)) : eno ν σ t (mk9 (wkr ν σ t) ν.tn) := by
  have htn := hn.2.2.2.1
  have hT := hn.2.2.2.2.2 t ht
  intro l hl
  have h1 := hfit l hl
  have e : pl ν σ 99 l 7 + rlv ν σ (mk9 (wkr ν σ t) ν.tn) l = pl ν σ 99 l (ν.T t 3) := by
    have e0 : rlv ν σ (mk9 (wkr ν σ t) ν.tn) l = sm (fun o => if (mk9 (wkr ν σ t) ν.tn).testBit o = true then (if l ∈ σ.w o then (σ.bd o : Int) else 0) else 0) ν.tn := rfl
    rw [e0]
    unfold pl
    have : sm (fun i => if i ≠ 99 ∧ ν.T i 4 ≤ 7 ∧ l ∈ σ.w i then (σ.bd i : Int) else 0) ν.tn = sm (fun i => if i ≠ 99 ∧ ν.T i 4 ≤ ν.T t 3 ∧ l ∈ σ.w i then (σ.bd i : Int) else 0) ν.tn + sm (fun o => if (mk9 (wkr ν σ t) ν.tn).testBit o = true then (if l ∈ σ.w o then (σ.bd o : Int) else 0) else 0) ν.tn := by
      rw [← sm_add]
      apply sm_congr
      intro k hk
      have hTk := hn.2.2.2.2.2 k hk
      rw [mk9_tb, decide_eq_true hk, Bool.true_and]
      unfold wkr
      rw [decide_eq_true hk, Bool.true_and]
      by_cases h2 : l ∈ σ.w k
      · have h3 : σ.w k ≠ [] := fun e => by rw [e] at h2; cases h2
        rw [if_pos ⟨by omega, by omega, h2⟩]
        by_cases h4 : ν.T k 4 ≤ ν.T t 3
        · rw [if_pos ⟨by omega, h4, h2⟩, if_neg (by simp; intro _; omega), Int.add_zero]
        · rw [if_neg (fun h => h4 h.2.1), if_pos (by simp [h3]; omega), if_pos h2, Int.zero_add]
      · rw [if_neg (fun h => h2 h.2.2), if_neg (fun h => h2 h.2.2)]
        simp [h2]
    omega
  have h2 := pl_back (ν := ν) (σ := σ) (l := l) ht htn hT.2.2.2.2.2.2.1
  unfold bk at h2
  rw [if_pos hl] at h2
  omega
theorem tb_lt {s i n : Nat} (hs : s < 2 ^ n) (h : s.testBit i = true) : i < n := by
  by_cases h1 : i < n
  · exact h1
  · rw [Nat.testBit_lt_two_pow (Nat.lt_of_lt_of_le hs (Nat.pow_le_pow_right (by decide) (by omega)))] at h
    cases h
set_option maxHeartbeats 2000000 in
theorem c_push (hn : WfN ν) (hI : NetC ν I) (hs : CS ν u σ I) (hw : WfW ν σ) (hN : 1000 ≤ N) {t : Nat} (ht : t < ν.tn) (hfit : ∀ l ∈ σ.w t, (σ.bd t : Int) ≤ pl ν σ t l (ν.T t 3)) : ∃ s, mX2_whomToPush N u (nI t) I = some (nI s) ∧ psh ν σ t s := by
  have htn := hn.2.2.2.1
  have hln := hn.2.2.1
  obtain ⟨ov, e1, hov⟩ := c_over (N := N) hn hI hs hw (by omega) ht
  have hpow : (2 : Nat) ^ ν.tn ≤ 2 ^ 9 := Nat.pow_le_pow_right (by decide) htn
  have heno : ∀ s, eno ν σ t s ↔ ∀ l, l < ν.ln → bt ov l = true → 0 ≤ pl ν σ 99 l 7 + rlv ν σ s l := by
    intro s
    constructor
    · intro h l hl hb
      rw [hov l (by omega)] at hb
      simp at hb
      exact h l hb.2.1
    · intro h l hl
      have hl' := (hw t ht).2.2 l hl
      by_cases h1 : pl ν σ 99 l 7 < 0
      · exact h l hl' (by rw [hov l (by omega)]; simp [hl', hl, h1])
      · have := (rlv_bd hn hw s l).1; omega
  have unf : mX2_whomToPush N u (nI t) I = if ov = 0 then some 0 else Option.bind (mX2_weakerOn N u ov (nI (ν.T t 3)) I) (fun r5 => Option.bind (mX2_whomToPush_44 N u ov r5 I N 0 0 1) (fun y19 => some y19)) := by
    unfold mX2_whomToPush
    rw [ck_n (by omega) (by decide), nI_clamp (by omega), (hs.2 t ht).1, e1, ob_some, show I 11 t = nI (ν.T t 3) from hI.2.2.2.2 t ht 3 (by decide)]
  by_cases h0 : ov = 0
  · refine ⟨0, by rw [unf, if_pos h0]; rfl, Nat.pow_pos (by decide), fun o ho => by simp at ho, ?_, fun s' _ _ _ => ?_⟩
    · rw [heno]
      intro l hl hb
      rw [h0, b_0] at hb
      cases hb
    · have := (cst_sm hn hw s').1
      rw [sS_0]
      omega
  · obtain ⟨W, hW⟩ : ∃ W, W = mk9 (wk2 ν σ t ov) ν.tn := ⟨_, rfl⟩
    have hWlt : W < 2 ^ ν.tn := by rw [hW]; exact mk9_lt _
    have hWtb : ∀ o, W.testBit o = (decide (o < ν.tn) && wk2 ν σ t ov o) := fun o => by rw [hW, mk9_tb]
    have hWwk : ∀ o, W.testBit o = true → wkr ν σ t o = true := by
      intro o ho
      rw [hWtb] at ho
      unfold wk2 at ho
      unfold wkr
      simp at ho
      obtain ⟨a1, a2, l, a3, -⟩ := ho
      have : σ.w o ≠ [] := fun e => by rw [e] at a3; cases a3
      simp [a1, a2, this]
    let cd : Nat → Prop := fun s => sub9 s W ∧ eno ν σ t s
    have hP := loopP (F := fun n (v : Int32 × Int32) i => mX2_whomToPush_44 N u ov (nI W) I n v.1 v.2 i) (b := W + 1) (out := fun v => v.1)
      (P := fun k v => (v.1 = 0 ∧ ∀ s, 1 ≤ s → s < k → ¬ cd s) ∨ ∃ s, 1 ≤ s ∧ s < k ∧ s ≤ W ∧ cd s ∧ v.1 = nI s ∧ v.2 = zI (sS ν (cst ν σ) s) ∧ ∀ s', 1 ≤ s' → s' < k → cd s' → sS ν (cst ν σ) s < sS ν (cst ν σ) s' ∨ (sS ν (cst ν σ) s = sS ν (cst ν σ) s' ∧ s ≤ s'))
      (fun n v _ => by
        show mX2_whomToPush_44 N u ov (nI W) I (n + 1) v.1 v.2 (nI (W + 1)) = some v.1
        rw [mX2_whomToPush_44, if_pos (nI_lt (Nat.lt_succ_self _) (by omega))])
      (fun n k v hk hP => by
        have stepN : (¬ cd k ∨ (∃ s, 1 ≤ s ∧ v.1 = nI s ∧ s ≤ W ∧ v.2 = zI (sS ν (cst ν σ) s) ∧ sS ν (cst ν σ) s ≤ sS ν (cst ν σ) k)) → mX2_whomToPush_44 N u ov (nI W) I (n + 1) v.1 v.2 (nI k) = mX2_whomToPush_44 N u ov (nI W) I n v.1 v.2 (nI (k + 1)) ∨ (v.1 = 0 ∧ cd k) := by
          intro h
          rw [mX2_whomToPush_44, if_neg (nI_nlt (by omega) (by omega)), nI_1]
          by_cases h1 : sub9 k W
          · rw [if_pos ((sub9_iff (by omega)).mpr h1), c_cost hn hI hs hw (by omega), ob_some]
            rcases c_rel (ov := ov) (s := k) hn hI hs hw (show 100 ≤ N by omega) with ⟨e, hr⟩ | ⟨e, hr⟩
            · have hck : cd k := ⟨h1, (heno k).mpr hr⟩
              by_cases hv : v.1 = 0
              · exact Or.inr ⟨hv, hck⟩
              · rcases h with h | ⟨s, hs1, hs2, hs4, hs3, hle⟩
                · exact absurd hck h
                · have b1 := cst_sm hn hw s
                  have b2 := cst_sm hn hw k
                  rw [if_neg hv, hs3, if_pos ((zI_le ⟨by omega, by omega⟩ ⟨by omega, by omega⟩).mpr hle)]
                  exact Or.inl rfl
            · rw [e, ob_some, if_pos rfl]
              left
              split
              · rfl
              · split <;> rfl
          · rw [if_neg (fun h => h1 ((sub9_iff (by omega)).mp h))]
            exact Or.inl rfl
        have stepT : cd k → (v.1 = 0 ∨ ∃ s, 1 ≤ s ∧ s ≤ W ∧ v.1 = nI s ∧ v.2 = zI (sS ν (cst ν σ) s) ∧ sS ν (cst ν σ) k < sS ν (cst ν σ) s) → mX2_whomToPush_44 N u ov (nI W) I (n + 1) v.1 v.2 (nI k) = mX2_whomToPush_44 N u ov (nI W) I n (nI k) (zI (sS ν (cst ν σ) k)) (nI (k + 1)) := by
          intro hck h
          have e : mX2_relieves N u (nI k) ov I = some 1 := by
            rcases c_rel (ov := ov) (s := k) hn hI hs hw (show 100 ≤ N by omega) with ⟨e, -⟩ | ⟨-, hr⟩
            · exact e
            · exact absurd ((heno k).mp hck.2) hr
          have n1 : ¬ (1 : Int32) = 0 := by decide
          rw [mX2_whomToPush_44, if_neg (nI_nlt (by omega) (by omega)), nI_1, if_pos ((sub9_iff (by omega)).mpr hck.1), c_cost hn hI hs hw (by omega), ob_some, e, ob_some, if_neg n1]
          rcases h with h | ⟨s, hs1, hsW, hs2, hs3, hlt⟩
          · rw [if_pos h]
          · have b1 := cst_sm hn hw s
            have b2 := cst_sm hn hw k
            rw [hs2, if_neg (nI_ne0 (by omega) (by omega)), hs3, if_neg (fun h => by rw [zI_le ⟨by omega, by omega⟩ ⟨by omega, by omega⟩] at h; omega)]
        by_cases hck : cd k
        · rcases hP with ⟨h1, h2⟩ | ⟨s, h1, h2, h3, h4, h5, h6, h7⟩
          · by_cases hk1 : 1 ≤ k
            · refine ⟨(nI k, zI (sS ν (cst ν σ) k)), stepT hck (Or.inl h1), Or.inr ⟨k, hk1, by omega, by omega, hck, rfl, rfl, fun s' q1 q2 q3 => ?_⟩⟩
              by_cases he : s' = k
              · subst he; exact Or.inr ⟨rfl, Nat.le_refl _⟩
              · exact absurd q3 (h2 s' q1 (by omega))
            · -- the empty set isn't met here
              have hk0 : k = 0 := by omega
              subst hk0
              exfalso
              apply h0
              apply b_ext
              intro i hi
              rw [b_0]
              cases hb : bt ov i with
              | false => rfl
              | true =>
                have h9 := hov i hi
                rw [hb] at h9
                have h8 : i < ν.ln ∧ i ∈ σ.w t ∧ pl ν σ 99 i 7 < 0 := by simpa using h9.symm
                have := hck.2 i h8.2.1
                unfold rlv at this
                rw [sS_0] at this
                omega
          · by_cases hlt : sS ν (cst ν σ) k < sS ν (cst ν σ) s
            · refine ⟨(nI k, zI (sS ν (cst ν σ) k)), stepT hck (Or.inr ⟨s, h1, h3, h5, h6, hlt⟩), Or.inr ⟨k, by omega, by omega, by omega, hck, rfl, rfl, fun s' q1 q2 q3 => ?_⟩⟩
              by_cases he : s' = k
              · subst he; exact Or.inr ⟨rfl, Nat.le_refl _⟩
              · have := h7 s' q1 (by omega) q3
                omega
            · rcases stepN (Or.inr ⟨s, h1, h5, h3, h6, by omega⟩) with e | ⟨e, -⟩
              · refine ⟨v, e, Or.inr ⟨s, h1, by omega, h3, h4, h5, h6, fun s' q1 q2 q3 => ?_⟩⟩
                by_cases he : s' = k
                · subst he; omega
                · exact h7 s' q1 (by omega) q3
              · rw [h5] at e
                exact absurd e (nI_ne0 (by omega) (by omega))
        · rcases stepN (Or.inl hck) with e | ⟨-, e⟩
          · refine ⟨v, e, ?_⟩
            rcases hP with ⟨h1, h2⟩ | ⟨s, h1, h2, h3, h4, h5, h6, h7⟩
            · refine Or.inl ⟨h1, fun s' q1 q2 => ?_⟩
              by_cases he : s' = k
              · subst he; exact hck
              · exact h2 s' q1 (by omega)
            · refine Or.inr ⟨s, h1, by omega, h3, h4, h5, h6, fun s' q1 q2 q3 => ?_⟩
              by_cases he : s' = k
              · subst he; exact absurd q3 hck
              · exact h7 s' q1 (by omega) q3
          · exact absurd e hck)
      N 1 (0, 0) (by omega) (by omega) (Or.inl ⟨rfl, fun s h1 h2 => by omega⟩)
    obtain ⟨v, hv, e2⟩ := hP
    have e2' : mX2_whomToPush_44 N u ov (nI W) I N 0 0 1 = some v.1 := e2
    have res : mX2_whomToPush N u (nI t) I = some v.1 := by rw [unf, if_neg h0, c_weak hn hI hs hw (by omega) ht, ob_some, ← hW, e2', ob_some]
    -- a set that is enough, cut to those on overbooked links
    have cut : ∀ s', s' < 2 ^ ν.tn → (∀ o, s'.testBit o = true → wkr ν σ t o = true) → eno ν σ t s' → cd (s' &&& W) ∧ 1 ≤ s' &&& W ∧ s' &&& W < W + 1 ∧ (s' &&& W = s' ∨ sS ν (cst ν σ) (s' &&& W) < sS ν (cst ν σ) s') := by
      intro s' q1 q2 q3
      have hsub : sub9 (s' &&& W) W := fun i hi => by rw [Nat.testBit_and] at hi; simp at hi; exact hi.2
      have hen : eno ν σ t (s' &&& W) := by
        rw [heno]
        intro l hl hb
        have h1 := (heno s').mp q3 l hl hb
        have h2 : rlv ν σ s' l = rlv ν σ (s' &&& W) l := by
          unfold rlv
          rw [sS_split _ s' W]
          have : sm (fun o => if s'.testBit o = true ∧ W.testBit o = false then (if l ∈ σ.w o then (σ.bd o : Int) else 0) else 0) ν.tn = 0 := by
            rw [sm_congr (g := fun _ => 0) (fun k hk => ?_)]
            · exact sm_0 _
            · by_cases hc : s'.testBit k = true ∧ W.testBit k = false
              · rw [if_pos hc, if_neg]
                intro hm
                have h3 := hc.2
                rw [hWtb, decide_eq_true hk, Bool.true_and] at h3
                have h4 := q2 k hc.1
                unfold wkr at h4
                unfold wk2 at h3
                simp at h4
                rw [decide_eq_true h4.2.2, Bool.true_and] at h3
                have := (List.any_eq_false.mp h3) l hm
                rw [hb] at this
                exact this rfl
              · rw [if_neg hc]
          rw [this, Int.add_zero]
        omega
      refine ⟨⟨hsub, hen⟩, ?_, Nat.lt_succ_of_le (sub9_le hsub), ?_⟩
      · by_cases hz : s' &&& W = 0
        · exfalso
          rw [hz] at hen
          apply h0
          apply b_ext
          intro i hi
          rw [b_0]
          cases hb : bt ov i with
          | false => rfl
          | true =>
            have h9 := hov i hi
            rw [hb] at h9
            have h8 : i < ν.ln ∧ i ∈ σ.w t ∧ pl ν σ 99 i 7 < 0 := by simpa using h9.symm
            have := hen i h8.2.1
            unfold rlv at this
            rw [sS_0] at this
            omega
        · omega
      · by_cases hex : ∃ o, s'.testBit o = true ∧ W.testBit o = false
        · obtain ⟨o, ho1, ho2⟩ := hex
          right
          rw [sS_split (cst ν σ) s' W]
          have hot := tb_lt q1 ho1
          have := sm_ge1 (f := fun o => if s'.testBit o = true ∧ W.testBit o = false then cst ν σ o else 0) (j := o) (n := ν.tn) (fun k hk => by
            have := cst_bd hn hw hk
            show 0 ≤ (if s'.testBit k = true ∧ W.testBit k = false then cst ν σ k else 0)
            split <;> omega) hot
          rw [if_pos ⟨ho1, ho2⟩] at this
          have := cst_bd hn hw hot
          omega
        · left
          apply Nat.eq_of_testBit_eq
          intro i
          rw [Nat.testBit_and]
          cases h1 : s'.testBit i with
          | false => rfl
          | true =>
            cases h2 : W.testBit i with
            | true => rfl
            | false => exact absurd ⟨i, h1, h2⟩ hex
    rcases hv with ⟨h1, h2⟩ | ⟨s, h1, h2, h3, h4, h5, h6, h7⟩
    · exfalso
      obtain ⟨c1, c2, c3, -⟩ := cut (mk9 (wkr ν σ t) ν.tn) (mk9_lt _) (fun o ho => by rw [mk9_tb] at ho; simp at ho; exact ho.2) (full_eno hn ht hfit)
      exact h2 _ c2 c3 c1
    · refine ⟨s, by rw [res, h5], by omega, fun o ho => hWwk o (h4.1 o ho), h4.2, fun s' q1 q2 q3 => ?_⟩
      obtain ⟨c1, c2, c3, c4⟩ := cut s' q1 q2 q3
      have h8 := h7 _ c2 c3 c1
      rcases c4 with c4 | c4
      · rw [c4] at h8; exact h8
      · omega
end Push
