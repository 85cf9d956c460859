/-! the class: the best way: spans, first steps -/
def mw (wd : Nat → Int) : List Nat → Int
  | [] => 1000000
  | l :: p => if mw wd p < wd l then mw wd p else wd l
def lxl : List Nat → List Nat → Prop
  | [], _ => True
  | _ :: _, [] => False
  | a :: p, b :: q => a < b ∨ (a = b ∧ lxl p q)
/-- the best way: metric, links, width, the links' numbers -/
def isB (ν : Nt) (go : Nat → Bool) (wd : Nat → Int) (a z h : Nat) (p : List Nat) : Prop := IsP ν go a z h p ∧ ∀ q, IsP ν go a z h q →
  mt ν p < mt ν q ∨ (mt ν p = mt ν q ∧ (p.length < q.length ∨ (p.length = q.length ∧ (mw wd q < mw wd p ∨ (mw wd q = mw wd p ∧ lxl p q)))))
def rwS (ν : Nt) (go : Nat → Bool) (wd : Nat → Int) (z : Nat) (D1 D0 : Nat → Nat) (S0 : Nat → Int) : Nat → Nat → Int
  | 0, n => if n = z then 1000000 else -1000000
  | k + 1, n => if go k = true ∧ ν.L k 0 = n ∧ D1 n < 1000000 ∧ D1 n = ν.L k 2 + D0 (ν.L k 1) then
      (if rwS ν go wd z D1 D0 S0 k n < (if S0 (ν.L k 1) < wd k then S0 (ν.L k 1) else wd k) then (if S0 (ν.L k 1) < wd k then S0 (ν.L k 1) else wd k) else rwS ν go wd z D1 D0 S0 k n) else rwS ν go wd z D1 D0 S0 k n
def Sp (ν : Nt) (go : Nat → Bool) (wd : Nat → Int) (z : Nat) : Nat → Nat → Int
  | 0, n => if n = z then 1000000 else -1000000
  | s + 1, n => rwS ν go wd z (Dm ν go z (s + 1)) (Dm ν go z s) (Sp ν go wd z s) ν.ln n
section Best
variable {ν : Nt} {go : Nat → Bool} {wd : Nat → Int} {I : gI} {N z : Nat}
theorem rwS_ge {D1 D0 : Nat → Nat} {S0 : Nat → Int} {n : Nat} : ∀ {k j : Nat}, j ≤ k → rwS ν go wd z D1 D0 S0 j n ≤ rwS ν go wd z D1 D0 S0 k n
  | 0, j, h => by have : j = 0 := by omega
                  subst this; exact Int.le_refl _
  | k + 1, j, h => by
    by_cases e : j = k + 1
    · subst e; exact Int.le_refl _
    · have := rwS_ge (D1 := D1) (D0 := D0) (S0 := S0) (n := n) (k := k) (j := j) (by omega)
      refine Int.le_trans this ?_
      rw [rwS]
      split
      · split <;> omega
      · exact Int.le_refl _
theorem rwS_link {D1 D0 : Nat → Nat} {S0 : Nat → Int} {n l k : Nat} (hl : l < k) (h1 : go l = true) (h2 : ν.L l 0 = n) (h3 : D1 n < 1000000) (h4 : D1 n = ν.L l 2 + D0 (ν.L l 1)) : (if S0 (ν.L l 1) < wd l then S0 (ν.L l 1) else wd l) ≤ rwS ν go wd z D1 D0 S0 k n := by
  refine Int.le_trans ?_ (rwS_ge (show l + 1 ≤ k by omega))
  have e : rwS ν go wd z D1 D0 S0 (l + 1) n = (if rwS ν go wd z D1 D0 S0 l n < (if S0 (ν.L l 1) < wd l then S0 (ν.L l 1) else wd l) then (if S0 (ν.L l 1) < wd l then S0 (ν.L l 1) else wd l) else rwS ν go wd z D1 D0 S0 l n) := by
    rw [rwS]
    exact if_pos ⟨h1, h2, h3, h4⟩
  rw [e]
  generalize (if S0 (ν.L l 1) < wd l then S0 (ν.L l 1) else wd l) = x9
  split <;> omega
theorem rwS_of {D1 D0 : Nat → Nat} {S0 : Nat → Int} {n : Nat} : ∀ {k : Nat}, rwS ν go wd z D1 D0 S0 k n = (if n = z then 1000000 else -1000000) ∨ ∃ l, l < k ∧ go l = true ∧ ν.L l 0 = n ∧ D1 n = ν.L l 2 + D0 (ν.L l 1) ∧ rwS ν go wd z D1 D0 S0 k n = (if S0 (ν.L l 1) < wd l then S0 (ν.L l 1) else wd l)
  | 0 => Or.inl rfl
  | k + 1 => by
    have ih := rwS_of (D1 := D1) (D0 := D0) (S0 := S0) (n := n) (k := k)
    have up : (rwS ν go wd z D1 D0 S0 k n = (if n = z then 1000000 else -1000000) ∨ ∃ l, l < k ∧ go l = true ∧ ν.L l 0 = n ∧ D1 n = ν.L l 2 + D0 (ν.L l 1) ∧ rwS ν go wd z D1 D0 S0 k n = (if S0 (ν.L l 1) < wd l then S0 (ν.L l 1) else wd l)) → (rwS ν go wd z D1 D0 S0 k n = (if n = z then 1000000 else -1000000) ∨ ∃ l, l < k + 1 ∧ go l = true ∧ ν.L l 0 = n ∧ D1 n = ν.L l 2 + D0 (ν.L l 1) ∧ rwS ν go wd z D1 D0 S0 k n = (if S0 (ν.L l 1) < wd l then S0 (ν.L l 1) else wd l)) := by
      rintro (h | ⟨l, h1, h2⟩)
      · exact Or.inl h
      · exact Or.inr ⟨l, by omega, h2⟩
    rw [rwS]
    by_cases hc : go k = true ∧ ν.L k 0 = n ∧ D1 n < 1000000 ∧ D1 n = ν.L k 2 + D0 (ν.L k 1)
    · rw [if_pos hc]
      by_cases hlt : rwS ν go wd z D1 D0 S0 k n < (if S0 (ν.L k 1) < wd k then S0 (ν.L k 1) else wd k)
      · rw [if_pos hlt]
        exact Or.inr ⟨k, by omega, hc.1, hc.2.1, hc.2.2.2, rfl⟩
      · rw [if_neg hlt]
        exact up ih
    · rw [if_neg hc]
      exact up ih
/-- no walk of the least metric is wider -/
theorem Sp_walk (hn : WfN ν) : ∀ {p : List Nat} {a s : Nat}, chn ν a p z → (∀ l ∈ p, go l = true) → p.length ≤ s → mt ν p = Dm ν go z s a → Dm ν go z s a < 1000000 → mw wd p ≤ Sp ν go wd z s a
  | [], a, s, h, _, _, hm, hf => by
    cases h
    cases s with
    | zero => rw [Sp, if_pos rfl, mw]; exact Int.le_refl _
    | succ s =>
      rw [Sp, mw]
      have := rwS_ge (ν := ν) (go := go) (wd := wd) (z := z) (D1 := Dm ν go z (s + 1)) (D0 := Dm ν go z s) (S0 := Sp ν go wd z s) (n := z) (k := ν.ln) (Nat.zero_le _)
      rw [rwS, if_pos rfl] at this
      exact this
  | l :: p, a, 0, h, _, hs, _, _ => by simp at hs
  | l :: p, a, s + 1, h, hg, hs, hm, hf => by
    have hs' : p.length ≤ s := by simp at hs; omega
    have h1 := Dm_walk (r := s) h.2.2 (fun x hx => hg x (List.mem_cons_of_mem _ hx)) hs'
    have h2 := rwD_link (ν := ν) (go := go) (Dm ν go z s) h.1 (hg l List.mem_cons_self) h.2.1
    have h2' : Dm ν go z (s + 1) a ≤ ν.L l 2 + Dm ν go z s (ν.L l 1) := h2
    rw [mt] at hm
    have e : mt ν p = Dm ν go z s (ν.L l 1) := by omega
    have ih := Sp_walk hn h.2.2 (fun x hx => hg x (List.mem_cons_of_mem _ hx)) hs' e (by omega)
    have h3 := rwS_link (ν := ν) (go := go) (wd := wd) (z := z) (D1 := Dm ν go z (s + 1)) (D0 := Dm ν go z s) (S0 := Sp ν go wd z s) h.1 (hg l List.mem_cons_self) h.2.1 hf (by omega)
    have h4 : (if Sp ν go wd z s (ν.L l 1) < wd l then Sp ν go wd z s (ν.L l 1) else wd l) ≤ Sp ν go wd z (s + 1) a := h3
    rw [mw]
    refine Int.le_trans ?_ h4
    split <;> split <;> omega
/-- the condition of a step -/
def stp (ν : Nt) (go : Nat → Bool) (wd : Nat → Int) (z s n : Nat) (W : Int) (l : Nat) : Prop := go l = true ∧ ν.L l 0 = n ∧ W ≤ wd l ∧ W ≤ Sp ν go wd z s (ν.L l 1) ∧ Dm ν go z (s + 1) n = ν.L l 2 + Dm ν go z s (ν.L l 1)
/-- the row of first steps -/
def grd (ν : Nt) (go : Nat → Bool) (wd : Nat → Int) (z : Nat) (W : Int) : Nat → Nat → List Nat → Prop
  | 0, _, p => p = []
  | s + 1, n, p => ∃ l q, p = l :: q ∧ l < ν.ln ∧ stp ν go wd z s n W l ∧ (∀ l', l' < l → ¬ stp ν go wd z s n W l') ∧ grd ν go wd z W s (ν.L l 1) q
theorem stp_ex {s n : Nat} {W : Int} (hW : -1000000 < W) (hS : W ≤ Sp ν go wd z (s + 1) n) (hD : Dm ν go z (s + 1) n < Dm ν go z s n) : ∃ l, l < ν.ln ∧ stp ν go wd z s n W l := by
  have hz : ¬ n = z := by
    intro e
    subst e
    have h0 : Dm ν go n s n ≤ Dm ν go n 0 n := Dm_mono' (Nat.zero_le _)
    rw [show Dm ν go n 0 n = 0 by rw [Dm, if_pos rfl]] at h0
    omega
  rcases rwS_of (ν := ν) (go := go) (wd := wd) (z := z) (D1 := Dm ν go z (s + 1)) (D0 := Dm ν go z s) (S0 := Sp ν go wd z s) (n := n) (k := ν.ln) with e | ⟨l, h1, h2, h3, h4, h5⟩
  · have e' : Sp ν go wd z (s + 1) n = if n = z then 1000000 else -1000000 := e
    rw [if_neg hz] at e'
    omega
  · have h5' : Sp ν go wd z (s + 1) n = (if Sp ν go wd z s (ν.L l 1) < wd l then Sp ν go wd z s (ν.L l 1) else wd l) := h5
    refine ⟨l, h1, h2, h3, ?_, ?_, h4⟩
    · split at h5' <;> omega
    · split at h5' <;> omega
theorem stp_strict {s n l : Nat} {W : Int} (hl : l < ν.ln) (h : stp ν go wd z (s + 1) n W l) (hD : Dm ν go z (s + 1 + 1) n < Dm ν go z (s + 1) n) : Dm ν go z (s + 1) (ν.L l 1) < Dm ν go z s (ν.L l 1) := by
  have h1 := rwD_link (ν := ν) (go := go) (Dm ν go z s) hl h.1 h.2.1
  have h1' : Dm ν go z (s + 1) n ≤ ν.L l 2 + Dm ν go z s (ν.L l 1) := h1
  have h2 := h.2.2.2.2
  omega
/-- the row of first steps is a walk, of the least metric, wide, the first of such -/
theorem grd_ok {W : Int} (hW : W ≤ 1000000) (hn : WfN ν) : ∀ {s n : Nat} {p : List Nat}, grd ν go wd z W s n p → (s = 0 → n = z) → (∀ k, s = k + 1 → Dm ν go z (k + 1) n < Dm ν go z k n) →
    chn ν n p z ∧ (∀ l ∈ p, go l = true) ∧ p.length = s ∧ mt ν p = Dm ν go z s n ∧ W ≤ mw wd p ∧ ∀ q, chn ν n q z → (∀ l ∈ q, go l = true) → q.length = s → mt ν q = Dm ν go z s n → W ≤ mw wd q → lxl p q
  | 0, n, p, h, h0, _ => by
    cases h
    have := h0 rfl
    subst this
    refine ⟨rfl, fun l hl => (by cases hl), rfl, by rw [Dm, if_pos rfl]; rfl, hW, fun q _ _ _ _ _ => trivial⟩
  | s + 1, n, p, h, _, hs => by
    obtain ⟨l, q, rfl, hl, hst, hfirst, hg⟩ := h
    have hstrict := hs s rfl
    have hfar : Dm ν go z (s + 1) n < 1000000 := Nat.lt_of_lt_of_le hstrict (Dm_le s)
    obtain ⟨c1, c2, c3, c4, c5, c6⟩ := grd_ok hW hn hg (fun e => by
      subst e
      have h2 := hst.2.2.2.2
      have : Dm ν go z 0 (ν.L l 1) < 1000000 := by omega
      rw [Dm] at this
      by_cases hz : ν.L l 1 = z
      · exact hz
      · rw [if_neg hz] at this; omega) (fun k e => by subst e; exact stp_strict hl hst hstrict)
    refine ⟨⟨hl, hst.2.1, c1⟩, fun x hx => ?_, by rw [List.length_cons, c3], by rw [mt, c4]; exact hst.2.2.2.2.symm, ?_, fun q' q1 q2 q3 q4 q5 => ?_⟩
    · rcases List.mem_cons.mp hx with rfl | hx
      · exact hst.1
      · exact c2 x hx
    · have := hst.2.2.1
      rw [mw]
      split <;> omega
    · cases q' with
      | nil => simp at q3
      | cons l' q' =>
        have q3' : q'.length = s := by simp at q3; omega
        have hg' : ∀ x ∈ q', go x = true := fun x hx => q2 x (List.mem_cons_of_mem _ hx)
        have h1 := Dm_walk (r := s) q1.2.2 hg' (by omega)
        have h2 := rwD_link (ν := ν) (go := go) (Dm ν go z s) q1.1 (q2 l' List.mem_cons_self) q1.2.1
        have h2' : Dm ν go z (s + 1) n ≤ ν.L l' 2 + Dm ν go z s (ν.L l' 1) := h2
        rw [mt] at q4
        have e : mt ν q' = Dm ν go z s (ν.L l' 1) := by omega
        rw [mw] at q5
        have w1 : W ≤ wd l' ∧ W ≤ mw wd q' := by split at q5 <;> omega
        have hsp := Sp_walk (wd := wd) hn q1.2.2 hg' (show q'.length ≤ s by omega) e (by omega)
        have hst' : stp ν go wd z s n W l' := ⟨q2 l' List.mem_cons_self, q1.2.1, w1.1, Int.le_trans w1.2 hsp, by omega⟩
        by_cases hll : l' < l
        · exact absurd hst' (hfirst l' hll)
        · by_cases he : l = l'
          · subst he
            exact Or.inr ⟨rfl, c6 q' q1.2.2 hg' q3' e w1.2⟩
          · exact Or.inl (by omega)
theorem mw_ge {B : Int} (hB : B ≤ 1000000) : ∀ {p : List Nat}, (∀ l ∈ p, B ≤ wd l) → B ≤ mw wd p
  | [], _ => hB
  | l :: p, h => by
    have h1 := h l List.mem_cons_self
    have h2 := mw_ge hB (p := p) (fun x hx => h x (List.mem_cons_of_mem _ hx))
    rw [mw]
    split <;> omega
theorem mt_le (hn : WfN ν) : ∀ {p : List Nat}, (∀ l ∈ p, l < ν.ln) → mt ν p ≤ 99 * p.length
  | [], _ => Nat.le_refl _
  | l :: p, h => by
    have h1 := (hn.2.2.2.2.1 l (h l List.mem_cons_self)).2.2.2.2.1
    have h2 := mt_le hn (p := p) (fun x hx => h x (List.mem_cons_of_mem _ hx))
    rw [mt, List.length_cons]
    omega
/-- the row of first steps, with as few links as the least metric has, as wide as can be, is the best way -/
theorem grd_best (hn : WfN ν) (hwd : ∀ l, l < ν.ln → -1000 ≤ wd l) {a h s : Nat} (haz : a ≠ z) (hsh : s ≤ h) (hfar : Dm ν go z h a < 1000000) (hs : Dm ν go z s a = Dm ν go z h a) (hmin : ∀ k, k < s → Dm ν go z k a ≠ Dm ν go z h a) {p : List Nat} (hg : grd ν go wd z (Sp ν go wd z s a) s a p) (hW : Sp ν go wd z s a ≤ 1000000) : isB ν go wd a z h p := by
  have hs0 : s ≠ 0 := by
    intro e
    subst e
    rw [Dm, if_neg haz] at hs
    omega
  have hstrict : ∀ k, s = k + 1 → Dm ν go z (k + 1) a < Dm ν go z k a := by
    intro k e
    have h1 := hmin k (by omega)
    have h2 := Dm_mono (ν := ν) (go := go) (z := z) (n := a) k
    rw [← e, hs] at h2 ⊢
    omega
  obtain ⟨c1, c2, c3, c4, c5, c6⟩ := grd_ok hW hn hg (fun e => absurd e hs0) hstrict
  have hsim : (vis ν a p).Nodup := by
    obtain ⟨q, q1, q2, q3⟩ := chn_simple c1
    have h1 := mt_sub hn q1 (chn_lt c1)
    have h2 := Dm_walk (r := h) q2 (fun l hl => c2 l (q1.subset hl)) (by have := q1.length_le; omega)
    have h3 := q1.length_le
    have : q.length = p.length := by omega
    rw [q1.eq_of_length this] at q3
    exact q3
  refine ⟨⟨c1, hsim, by omega, c2⟩, fun q hq => ?_⟩
  have m1 := Dm_walk hq.1 hq.2.2.2 hq.2.2.1
  by_cases e1 : mt ν p < mt ν q
  · exact Or.inl e1
  · have e2 : mt ν p = mt ν q := by omega
    refine Or.inr ⟨e2, ?_⟩
    have m2 := Dm_walk (r := q.length) hq.1 hq.2.2.2 (Nat.le_refl _)
    have m3 : Dm ν go z q.length a = Dm ν go z h a := by
      have := Dm_mono' (ν := ν) (go := go) (z := z) (n := a) hq.2.2.1
      omega
    have m4 : s ≤ q.length := by
      by_cases hlt : q.length < s
      · exact absurd m3 (hmin _ hlt)
      · omega
    by_cases e3 : p.length < q.length
    · exact Or.inl e3
    · have e4 : q.length = s := by omega
      refine Or.inr ⟨by omega, ?_⟩
      have hsp := Sp_walk (wd := wd) hn hq.1 hq.2.2.2 (show q.length ≤ s by omega) (by omega) (by omega)
      by_cases e5 : mw wd q < mw wd p
      · exact Or.inl e5
      · exact Or.inr ⟨by
          have hp2 := Sp_walk (wd := wd) hn c1 c2 (show p.length ≤ s by omega) c4 (by omega)
          omega, c6 q hq.1 hq.2.2.2 e4 (by omega) (by
          have hp2 := Sp_walk (wd := wd) hn c1 c2 (show p.length ≤ s by omega) c4 (by omega)
          omega)⟩
end Best
