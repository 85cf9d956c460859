/-! a row of tunnels is settled: what comes out -/
def clr (s t : Nat) : Nat := s ^^^ 2 ^ t
def stW (σ : St) (t : Nat) (q : List Nat) : St := (fun i => if i = t then q else σ.w i, σ.bd, σ.up)
def dpW (σ : St) (s : Nat) : St := (fun i => if s.testBit i = true then [] else σ.w i, σ.bd, σ.up)
def stg (ν : Nt) (s t : Nat) : Prop := t < ν.tn ∧ s.testBit t = true ∧ ∀ o, o < ν.tn → s.testBit o = true → ν.T t 3 < ν.T o 3 ∨ (ν.T t 3 = ν.T o 3 ∧ t ≤ o)
def Stl (ν : Nt) : Nat → Nat → St → Nat → St → Prop
  | 0, s, σ, c, σ' => s = 0 ∧ c = 0 ∧ σ' = σ
  | k + 1, s, σ, c, σ' => (s = 0 ∧ c = 0 ∧ σ' = σ) ∨ (s ≠ 0 ∧ ∃ t q, stg ν s t ∧ bst ν σ t (σ.bd t) (ν.T t 3) q ∧ ((q = [] ∧ Stl ν k (clr s t) σ c σ') ∨ (q ≠ [] ∧ ∃ s1 c', psh ν (stW σ t q) t s1 ∧ c = pcn s1 + c' ∧ Stl ν k (clr s t ||| s1) (dpW (stW σ t q) s1) c' σ')))
/-- a state that keeps the promises: ways over open links, nothing overbooked -/
def Gd (ν : Nt) (σ : St) : Prop := (∀ t, t < ν.tn → 1 ≤ σ.bd t ∧ σ.bd t ≤ 99 ∧ (σ.w t = [] ∨ IsP ν (opn ν σ t) (ν.T t 0) (ν.T t 1) (ν.T t 6) (σ.w t))) ∧ ∀ l, l < ν.ln → 0 ≤ pl ν σ 99 l 7
section Settle
variable {ν : Nt} {σ : St} {I : gI} {N u b : Nat}
theorem stW_w {t i : Nat} {q : List Nat} : (stW σ t q).w i = if i = t then q else σ.w i := rfl
theorem stW_bd {t i : Nat} {q : List Nat} : (stW σ t q).bd i = σ.bd i := rfl
theorem dpW_w {s i : Nat} : (dpW σ s).w i = if s.testBit i = true then [] else σ.w i := rfl
theorem dpW_bd {s i : Nat} : (dpW σ s).bd i = σ.bd i := rfl
theorem stg_one {s t t' : Nat} (h : stg ν s t) (h' : stg ν s t') : t = t' := by
  have h1 := h.2.2 t' h'.1 h'.2.1
  have h2 := h'.2.2 t h.1 h.2.1
  omega
theorem clr_tb {s t i : Nat} (h : s.testBit t = true) : (clr s t).testBit i = (s.testBit i && decide (i ≠ t)) := by
  unfold clr
  rw [Nat.testBit_xor, Nat.testBit_two_pow]
  by_cases e : t = i
  · subst e; simp [h]
  · simp [e, Ne.symm e]
theorem clr_lt {s t n : Nat} (h : s < 2 ^ n) (ht : t < n) : clr s t < 2 ^ n := Nat.xor_lt_two_pow h (Nat.pow_lt_pow_right (by decide) ht)
theorem clr_nI {s t : Nat} (ht : t < 31) (h : s.testBit t = true) : nI s &&& (((1 : Int32) <<< (nI t &&& 31)) ^^^ (-1)) = nI (clr s t) := b_ext fun i hi => by
  rw [b_not hi, b_nI hi, b_nI hi, b_sh1 (by omega) hi, clr_tb h]
  by_cases e : i = t <;> simp [e]
theorem Gd.wf (hn : WfN ν) (h : Gd ν σ) : WfW ν σ := fun t ht => by
  have h1 := h.1 t ht
  have h2 := hn.2.2.2.2.2 t ht
  refine ⟨h1.2.1, ?_, fun l hl => ?_⟩
  · rcases h1.2.2 with e | e
    · rw [e]; simp
    · have := e.2.2.1; omega
  · rcases h1.2.2 with e | e
    · rw [e] at hl; cases hl
    · exact chn_lt e.1 l hl
theorem opn_fit {t bd p l : Nat} (h : fit ν σ t bd p l = true) : opn ν σ t l = true ∧ (bd : Int) ≤ pl ν σ t l p := by
  unfold fit at h
  simpa using h
theorem pl_st {t l p : Nat} {q : List Nat} : pl ν (stW σ t q) t l p = pl ν σ t l p := by
  unfold pl
  congr 1
  apply sm_congr
  intro k hk
  by_cases h : k = t
  · subst h; simp
  · rw [stW_w, stW_bd, if_neg h]
theorem pl_dp (hn : WfN ν) {s l : Nat} : pl ν (dpW σ s) 99 l 7 = pl ν σ 99 l 7 + rlv ν σ s l := by
  have e0 : rlv ν σ s l = sm (fun o => if s.testBit o = true then (if l ∈ σ.w o then (σ.bd o : Int) else 0) else 0) ν.tn := rfl
  have e1 : sm (fun i => if i ≠ 99 ∧ ν.T i 4 ≤ 7 ∧ l ∈ σ.w i then (σ.bd i : Int) else 0) ν.tn = sm (fun i => if i ≠ 99 ∧ ν.T i 4 ≤ 7 ∧ l ∈ (dpW σ s).w i then ((dpW σ s).bd i : Int) else 0) ν.tn + sm (fun o => if s.testBit o = true then (if l ∈ σ.w o then (σ.bd o : Int) else 0) else 0) ν.tn := by
    rw [← sm_add]
    apply sm_congr
    intro k hk
    have htn := hn.2.2.2.1
    have hT := hn.2.2.2.2.2 k hk
    have h1 : k ≠ 99 := by omega
    have h2 : ν.T k 4 ≤ 7 := by omega
    by_cases h3 : s.testBit k = true
    · rw [dpW_w, dpW_bd, if_pos h3]
      simp [h1, h2, h3]
    · rw [dpW_w, dpW_bd, if_neg h3]
      simp [h1, h2, h3]
  unfold pl
  rw [e0]
  omega
/-- the way found, those pushed out dropped: the promises are kept -/
theorem Gd_step (hn : WfN ν) (h : Gd ν σ) {t s1 : Nat} {q : List Nat} (ht : t < ν.tn) (hq : isB ν (fit ν σ t (σ.bd t) (ν.T t 3)) (fun l => pl ν σ t l 7) (ν.T t 0) (ν.T t 1) (ν.T t 6) q) (hp : psh ν (stW σ t q) t s1) : Gd ν (dpW (stW σ t q) s1) := by
  have htn := hn.2.2.2.1
  have hT := hn.2.2.2.2.2 t ht
  refine ⟨fun i hi => ⟨(h.1 i hi).1, (h.1 i hi).2.1, ?_⟩, fun l hl => ?_⟩
  · have ho : ∀ i, opn ν (dpW (stW σ t q) s1) i = opn ν σ i := fun _ => rfl
    rw [ho]
    show (if s1.testBit i = true then [] else (if i = t then q else σ.w i)) = [] ∨ IsP ν (opn ν σ i) (ν.T i 0) (ν.T i 1) (ν.T i 6) (if s1.testBit i = true then [] else (if i = t then q else σ.w i))
    by_cases h1 : s1.testBit i = true
    · rw [if_pos h1]; exact Or.inl rfl
    · rw [if_neg h1]
      by_cases h2 : i = t
      · subst h2
        rw [if_pos rfl]
        exact Or.inr ⟨hq.1.1, hq.1.2.1, hq.1.2.2.1, fun l hl => (opn_fit (hq.1.2.2.2 l hl)).1⟩
      · rw [if_neg h2]; exact (h.1 i hi).2.2
  · rw [pl_dp hn]
    by_cases hm : l ∈ q
    · exact hp.2.2.1 l (by show l ∈ (if t = t then q else σ.w t); rw [if_pos rfl]; exact hm)
    · have h1 := pl_back (ν := ν) (σ := stW σ t q) (l := l) (p := 7) ht htn (by omega)
      have h2 := pl_back (ν := ν) (σ := σ) (l := l) (p := 7) ht htn (by omega)
      rw [pl_st] at h1
      have h3 : bk (stW σ t q) t l = 0 := by
        unfold bk
        rw [if_neg]
        show ¬ l ∈ (if t = t then q else σ.w t)
        rw [if_pos rfl]; exact hm
      have h4 : 0 ≤ bk σ t l := by unfold bk; split <;> omega
      have h5 := h.2 l hl
      have h6 : 0 ≤ rlv ν (stW σ t q) s1 l := by
        unfold rlv sS
        have := sm_le (f := fun _ => 0) (g := fun o => if s1.testBit o = true then (if l ∈ (stW σ t q).w o then ((stW σ t q).bd o : Int) else 0) else 0) (n := ν.tn) (fun k _ => by
          show (0 : Int) ≤ (if s1.testBit k = true then (if l ∈ (stW σ t q).w k then ((stW σ t q).bd k : Int) else 0) else 0)
          split
          · split <;> omega
          · omega)
        rw [sm_0] at this
        exact this
      omega
theorem WfW_st (hn : WfN ν) (h : WfW ν σ) {t bd p : Nat} {wd : Nat → Int} {go : Nat → Bool} {q : List Nat} (ht : t < ν.tn) (hq : isB ν go wd (ν.T t 0) (ν.T t 1) (ν.T t 6) q) : WfW ν (stW σ t q) := fun i hi => by
  have hT := hn.2.2.2.2.2 t ht
  refine ⟨(h i hi).1, ?_, ?_⟩
  · show (if i = t then q else σ.w i).length ≤ 7
    by_cases e : i = t
    · rw [if_pos e]; have := hq.1.2.2.1; omega
    · rw [if_neg e]; exact (h i hi).2.1
  · show ∀ l ∈ (if i = t then q else σ.w i), l < ν.ln
    by_cases e : i = t
    · rw [if_pos e]; exact chn_lt hq.1.1
    · rw [if_neg e]; exact (h i hi).2.2
/-- whom the strongest is followed by -/
def kt (ν : Nt) (o : Nat) : Nat := ν.T o 3 * 16 + o
def upn (ν : Nt) (k : Nat) : Nat := ((List.range ν.tn).filter (fun o => decide (k ≤ kt ν o))).length
theorem upn_lt {k t : Nat} (ht : t < ν.tn) (h : k ≤ kt ν t) : upn ν (kt ν t + 1) + 1 ≤ upn ν k := by
  unfold upn
  have key : ∀ (L : List Nat), t ∈ L → (L.filter (fun o => decide (kt ν t + 1 ≤ kt ν o))).length + 1 ≤ (L.filter (fun o => decide (k ≤ kt ν o))).length := by
    intro L
    have mono : ∀ L : List Nat, (L.filter (fun o => decide (kt ν t + 1 ≤ kt ν o))).length ≤ (L.filter (fun o => decide (k ≤ kt ν o))).length := by
      intro L
      induction L with
      | nil => simp
      | cons x L ih =>
        simp only [List.filter_cons]
        by_cases h1 : kt ν t + 1 ≤ kt ν x
        · have h2 : k ≤ kt ν x := by omega
          simp [h1, h2]; omega
        · simp only [h1, decide_false, Bool.false_eq_true, if_false]
          split
          · simp; omega
          · exact ih
    induction L with
    | nil => intro h; cases h
    | cons x L ih =>
      intro hm
      simp only [List.filter_cons]
      by_cases e : x = t
      · subst e
        have h1 : ¬ kt ν x + 1 ≤ kt ν x := by omega
        simp only [h1, h, decide_false, decide_true, Bool.false_eq_true, if_false, if_true]
        have := mono L
        simp; omega
      · have hm' : t ∈ L := by
          rcases List.mem_cons.mp hm with h | h
          · exact absurd h.symm e
          · exact h
        have := ih hm'
        by_cases h1 : kt ν t + 1 ≤ kt ν x
        · have h2 : k ≤ kt ν x := by omega
          simp [h1, h2]; omega
        · simp only [h1, decide_false, Bool.false_eq_true, if_false]
          split
          · simp; omega
          · exact this
  exact key _ (List.mem_range.mpr ht)
theorem upn_le (k : Nat) : upn ν k ≤ ν.tn := by
  unfold upn
  have := List.length_filter_le (fun o => decide (k ≤ kt ν o)) (List.range ν.tn)
  simpa using this
/-- those that wait -/
def Wt (ν : Nt) (σ : St) (s k n : Nat) : Prop := s < 2 ^ ν.tn ∧ (∀ o, s.testBit o = true → k ≤ kt ν o) ∧ upn ν k ≤ n
theorem Wt_0 {s k n : Nat} (h : Wt ν σ s k 0) : s = 0 := by
  apply Nat.eq_of_testBit_eq
  intro i
  rw [Nat.zero_testBit]
  cases h1 : s.testBit i with
  | false => rfl
  | true =>
    have := upn_lt (tb_lt h.1 h1) (h.2.1 i h1)
    have := h.2.2
    omega
theorem Wt_step (hn : WfN ν) {s k n t s1 : Nat} {σ1 : St} (h : Wt ν σ s k (n + 1)) (hs : stg ν s t) (h1 : s1 < 2 ^ ν.tn) (h2 : ∀ o, s1.testBit o = true → wkr ν σ1 t o = true) {σ2 : St} : Wt ν σ2 (clr s t ||| s1) (kt ν t + 1) n := by
  have htn := hn.2.2.2.1
  refine ⟨Nat.or_lt_two_pow (clr_lt h.1 hs.1) h1, fun o ho => ?_, ?_⟩
  · rw [Nat.testBit_or, clr_tb hs.2.1] at ho
    simp at ho
    unfold kt
    rcases ho with ⟨a1, a2⟩ | a1
    · have := hs.2.2 o (tb_lt h.1 a1) a1
      have := tb_lt h.1 a1
      have := hs.1
      omega
    · have a2 := h2 o a1
      unfold wkr at a2
      simp at a2
      have := hn.2.2.2.2.2 o a2.1
      have := hs.1
      omega
  · have := upn_lt hs.1 (h.2.1 t hs.2.1)
    have := h.2.2
    omega
theorem or_0 (s : Nat) : s ||| 0 = s := Nat.or_zero s
end Settle
