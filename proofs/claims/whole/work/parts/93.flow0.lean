/-! flows, cuts, a way for more -/
theorem sm_swap (g : Nat → Nat → Int) (L : Nat) : ∀ n, sm (fun x => sm (g x) L) n = sm (fun l => sm (fun x => g x l) n) L
  | 0 => by rw [sm]; exact (sm_0 L).symm
  | n + 1 => by
    rw [sm, sm_swap g L n, ← sm_add]
    rfl
theorem sm_n0 {f : Nat → Int} {n : Nat} (h : ∀ k, k < n → f k = 0) : sm f n = 0 := by rw [sm_congr (g := fun _ => 0) h, sm_0]
section Flow0
variable {ν : Nt} {c f g : Nat → Int} {a z : Nat} {v v' : Int}
/-- what goes out of a node less what comes in -/
def ntf (ν : Nt) (f : Nat → Int) (x : Nat) : Int := sm (fun l => (if ν.L l 0 = x then f l else 0) - (if ν.L l 1 = x then f l else 0)) ν.ln
def Vf (ν : Nt) (c : Nat → Int) (a z : Nat) (f : Nat → Int) (v : Int) : Prop := (∀ l, l < ν.ln → 0 ≤ f l ∧ f l ≤ c l) ∧ (∀ x, x < 8 → x ≠ a → x ≠ z → ntf ν f x = 0) ∧ ntf ν f a = v
def Mxf (ν : Nt) (c : Nat → Int) (a z : Nat) (v : Int) : Prop := (∃ f, Vf ν c a z f v) ∧ ∀ f' v', Vf ν c a z f' v' → v' ≤ v
theorem Mxf_one (h : Mxf ν c a z v) (h' : Mxf ν c a z v') : v = v' := by
  obtain ⟨⟨f, hf⟩, h2⟩ := h
  obtain ⟨⟨f', hf'⟩, h2'⟩ := h'
  have := h2 f' v' hf'
  have := h2' f v hf
  omega
theorem cut_eq (hn : WfN ν) (ha : a < 8) (h : Vf ν c a z f v) {S : Nat → Bool} (hSa : S a = true) (hSz : S z = false) : v = sm (fun l => (if S (ν.L l 0) = true then f l else 0) - (if S (ν.L l 1) = true then f l else 0)) ν.ln := by
  have h8 := hn.2.1
  have e1 : sm (fun x => if S x = true then ntf ν f x else 0) 8 = v := by
    rw [← sm_pt (n := 8) (t := a) (g := v) ha]
    apply sm_congr
    intro x hx
    by_cases e : x = a
    · show (if S x = true then ntf ν f x else 0) = (if x = a then v else 0)
      rw [if_pos e, e, if_pos hSa, h.2.2]
    · show (if S x = true then ntf ν f x else 0) = (if x = a then v else 0)
      rw [if_neg e]
      by_cases e2 : S x = true
      · rw [if_pos e2]
        exact h.2.1 x hx e (fun ez => by rw [ez, hSz] at e2; cases e2)
      · rw [if_neg e2]
  have e2 : sm (fun x => if S x = true then ntf ν f x else 0) 8 = sm (fun x => sm (fun l => if S x = true then (if ν.L l 0 = x then f l else 0) - (if ν.L l 1 = x then f l else 0) else 0) ν.ln) 8 := by
    apply sm_congr
    intro x hx
    show (if S x = true then ntf ν f x else 0) = sm (fun l => if S x = true then (if ν.L l 0 = x then f l else 0) - (if ν.L l 1 = x then f l else 0) else 0) ν.ln
    by_cases e : S x = true
    · simp only [e, if_true]; rfl
    · simp only [e]
      exact (sm_0 _).symm
  rw [← e1, e2, sm_swap]
  apply sm_congr
  intro l hl
  have hL := hn.2.2.2.2.1 l hl
  show sm (fun x => if S x = true then (if ν.L l 0 = x then f l else 0) - (if ν.L l 1 = x then f l else 0) else 0) 8 = (if S (ν.L l 0) = true then f l else 0) - (if S (ν.L l 1) = true then f l else 0)
  have e3 : sm (fun x => if S x = true then (if ν.L l 0 = x then f l else 0) - (if ν.L l 1 = x then f l else 0) else 0) 8 = sm (fun x => (if x = ν.L l 0 then (if S (ν.L l 0) = true then f l else 0) else 0) + (if x = ν.L l 1 then -(if S (ν.L l 1) = true then f l else 0) else 0)) 8 := by
    apply sm_congr
    intro x hx
    show (if S x = true then (if ν.L l 0 = x then f l else 0) - (if ν.L l 1 = x then f l else 0) else 0) = (if x = ν.L l 0 then (if S (ν.L l 0) = true then f l else 0) else 0) + (if x = ν.L l 1 then -(if S (ν.L l 1) = true then f l else 0) else 0)
    by_cases h1 : x = ν.L l 0
    · have h2 : ¬ x = ν.L l 1 := fun e => hL.2.2.1 (by rw [← h1, ← e])
      have h2' : ¬ ν.L l 1 = x := fun e => h2 e.symm
      rw [if_pos h1, if_neg h2, if_pos h1.symm, if_neg h2', ← h1, Int.add_zero, Int.sub_zero]
    · have h1' : ¬ ν.L l 0 = x := fun e => h1 e.symm
      rw [if_neg h1, if_neg h1']
      by_cases h2 : x = ν.L l 1
      · rw [if_pos h2, if_pos h2.symm, ← h2]
        split <;> omega
      · have h2' : ¬ ν.L l 1 = x := fun e => h2 e.symm
        rw [if_neg h2, if_neg h2']
        split <;> rfl
  rw [e3, sm_add, sm_pt (by omega), sm_pt (by omega)]
  omega
/-- where no more can go, it is the most -/
theorem cut_max (hn : WfN ν) (ha : a < 8) (h : Vf ν c a z f v) {S : Nat → Bool} (hSa : S a = true) (hSz : S z = false) (hcl : ∀ l, l < ν.ln → (S (ν.L l 0) = true → S (ν.L l 1) = false → f l = c l) ∧ (S (ν.L l 0) = false → S (ν.L l 1) = true → f l = 0)) : Mxf ν c a z v := by
  refine ⟨⟨f, h⟩, fun f' v' h' => ?_⟩
  rw [cut_eq hn ha h hSa hSz, cut_eq hn ha h' hSa hSz]
  apply sm_le
  intro l hl
  have h1 := hcl l hl
  have h2 := h'.1 l hl
  have h3 := h.1 l hl
  show (if S (ν.L l 0) = true then f' l else 0) - (if S (ν.L l 1) = true then f' l else 0) ≤ (if S (ν.L l 0) = true then f l else 0) - (if S (ν.L l 1) = true then f l else 0)
  cases e1 : S (ν.L l 0) <;> cases e2 : S (ν.L l 1) <;> simp only [if_true, Bool.false_eq_true, if_false]
  · omega
  · have := h1.2 e1 e2; omega
  · have := h1.1 e1 e2; omega
  · omega
theorem Vf_bd (hn : WfN ν) (hc : ∀ l, l < ν.ln → c l ≤ 99) (h : Vf ν c a z f v) : v ≤ 1584 := by
  have h16 := hn.2.2.1
  rw [← h.2.2]
  have h1 : ntf ν f a ≤ sm (fun _ => 99) ν.ln := sm_le (fun l hl => by
    have h1 := h.1 l hl
    have h2 := hc l hl
    show (if ν.L l 0 = a then f l else 0) - (if ν.L l 1 = a then f l else 0) ≤ 99
    split <;> split <;> omega)
  have h2 := sm_bd (n := ν.ln) (B := 99) (f := fun _ => 99) (fun k hk => ⟨by decide, by decide⟩)
  have h4 : ν.ln * 99 ≤ 16 * 99 := Nat.mul_le_mul_right 99 h16
  omega
/-! a step along a link: e below 16 forwards, 16 + l back -/
def eL (e : Nat) : Nat := if e < 16 then e else e - 16
def ePv (ν : Nt) (e : Nat) : Nat := if e < 16 then ν.L e 0 else ν.L (e - 16) 1
def eNd (ν : Nt) (e : Nat) : Nat := if e < 16 then ν.L e 1 else ν.L (e - 16) 0
def eRs (c f : Nat → Int) (e : Nat) : Int := if e < 16 then c e - f e else f (e - 16)
def eSg (m : Int) (e : Nat) : Int := if e < 16 then m else -m
def upf (g : Nat → Int) (l : Nat) (d : Int) (k : Nat) : Int := if k = l then g l + d else g k
theorem ntf_up {l x : Nat} {d : Int} (hl : l < ν.ln) : ntf ν (upf g l d) x = ntf ν g x + (if ν.L l 0 = x then d else 0) - (if ν.L l 1 = x then d else 0) := by
  have e : ntf ν (upf g l d) x = ntf ν g x + sm (fun k => if k = l then (if ν.L l 0 = x then d else 0) - (if ν.L l 1 = x then d else 0) else 0) ν.ln := by
    unfold ntf
    rw [← sm_add]
    apply sm_congr
    intro k hk
    show (if ν.L k 0 = x then upf g l d k else 0) - (if ν.L k 1 = x then upf g l d k else 0) = (if ν.L k 0 = x then g k else 0) - (if ν.L k 1 = x then g k else 0) + (if k = l then (if ν.L l 0 = x then d else 0) - (if ν.L l 1 = x then d else 0) else 0)
    unfold upf
    by_cases ek : k = l
    · subst ek
      rw [if_pos rfl, if_pos rfl]
      split <;> split <;> omega
    · rw [if_neg ek, if_neg ek, Int.add_zero]
  rw [e, sm_pt hl]
  omega
/-- nodes that are reached (bits), by which step each, and when -/
def FO (ν : Nt) (c f : Nat → Int) (a R : Nat) (via rk : Nat → Nat) : Prop := R < 256 ∧ R.testBit a = true ∧ (∀ x, R.testBit x = true → rk x < pcn R) ∧ ∀ x, R.testBit x = true → x ≠ a → via x < 32 ∧ eL (via x) < ν.ln ∧ eNd ν (via x) = x ∧ 0 < eRs c f (via x) ∧ R.testBit (ePv ν (via x)) = true ∧ rk (ePv ν (via x)) < rk x
def clF (ν : Nt) (c f : Nat → Int) (R l : Nat) : Prop := (R.testBit (ν.L l 0) = true → R.testBit (ν.L l 1) = false → ¬ f l < c l) ∧ (R.testBit (ν.L l 0) = false → R.testBit (ν.L l 1) = true → ¬ 0 < f l)
theorem FO_8 {R : Nat} {via rk : Nat → Nat} (h : FO ν c f a R via rk) {x : Nat} (hx : R.testBit x = true) : x < 8 := tb_lt (n := 8) h.1 hx
theorem pcn_8b {R : Nat} (h : R < 256) : pcn R ≤ 8 := (by decide +kernel : ∀ r, r < 256 → pcn r ≤ 8) R h
theorem FO_0 (ha : a < 8) : FO ν c f a (2 ^ a) (fun _ => 0) (fun _ => 0) := by
  have h1 : ∀ x, (2 ^ a).testBit x = true → x = a := fun x h => by
    rw [Nat.testBit_two_pow] at h
    exact (of_decide_eq_true h).symm
  refine ⟨Nat.pow_lt_pow_right (by decide) ha, Nat.testBit_two_pow_self, fun x _ => ?_, fun x hx hne => absurd (h1 x hx) hne⟩
  rw [pcn_pow a (by omega)]
  exact Nat.one_pos
theorem FO_add {R x e : Nat} {via rk : Nat → Nat} (h : FO ν c f a R via rk) (hx : x < 8) (hR : R.testBit x = false) (he : e < 32) (hl : eL e < ν.ln) (hnd : eNd ν e = x) (hrs : 0 < eRs c f e) (hpv : R.testBit (ePv ν e) = true) : FO ν c f a (R ||| 2 ^ x) (fun y => if y = x then e else via y) (fun y => if y = x then pcn R else rk y) ∧ pcn (R ||| 2 ^ x) = pcn R + 1 := by
  have hp := pcn_or (show x < 16 by omega) hR
  have tb : ∀ y, (R ||| 2 ^ x).testBit y = true → y = x ∨ R.testBit y = true := fun y hy => by
    rw [Nat.testBit_or, Nat.testBit_two_pow] at hy
    by_cases ey : x = y
    · exact Or.inl ey.symm
    · simp [ey] at hy; exact Or.inr hy
  have ne : ∀ y, R.testBit y = true → y ≠ x := fun y hy ey => by rw [ey, hR] at hy; cases hy
  have sub : ∀ y, R.testBit y = true → (R ||| 2 ^ x).testBit y = true := fun y hy => by rw [Nat.testBit_or, hy]; rfl
  refine ⟨⟨Nat.or_lt_two_pow (n := 8) h.1 (Nat.pow_lt_pow_right (by decide) hx), sub a h.2.1, fun y hy => ?_, fun y hy hya => ?_⟩, hp⟩
  · show (if y = x then pcn R else rk y) < pcn (R ||| 2 ^ x)
    rw [hp]
    by_cases ey : y = x
    · rw [if_pos ey]; omega
    · rw [if_neg ey]
      rcases tb y hy with e' | e'
      · exact absurd e' ey
      · have := h.2.2.1 y e'; omega
  · show (if y = x then e else via y) < 32 ∧ eL (if y = x then e else via y) < ν.ln ∧ eNd ν (if y = x then e else via y) = y ∧ 0 < eRs c f (if y = x then e else via y) ∧ (R ||| 2 ^ x).testBit (ePv ν (if y = x then e else via y)) = true ∧ (if ePv ν (if y = x then e else via y) = x then pcn R else rk (ePv ν (if y = x then e else via y))) < (if y = x then pcn R else rk y)
    by_cases ey : y = x
    · rw [if_pos ey, if_pos ey, if_neg (ne _ hpv)]
      exact ⟨he, hl, by rw [ey]; exact hnd, hrs, sub _ hpv, h.2.2.1 _ hpv⟩
    · rw [if_neg ey, if_neg ey]
      rcases tb y hy with e' | e'
      · exact absurd e' ey
      · obtain ⟨q1, q2, q3, q4, q5, q6⟩ := h.2.2.2 y e' hya
        rw [if_neg (ne _ q5)]
        exact ⟨q1, q2, q3, q4, sub _ q5, q6⟩
/-- how much may go along the way to a node -/
def onP (ν : Nt) (c f : Nat → Int) (a : Nat) (via : Nat → Nat) (m : Int) : Nat → Nat → Prop
  | 0, x => x = a
  | k + 1, x => x = a ∨ (m ≤ eRs c f (via x) ∧ onP ν c f a via m k (ePv ν (via x)))
theorem onP_mono {via : Nat → Nat} {m m' : Int} (h : m' ≤ m) : ∀ {k x : Nat}, onP ν c f a via m k x → onP ν c f a via m' k x
  | 0, x, hx => hx
  | k + 1, x, hx => by
    rcases hx with hx | ⟨h1, h2⟩
    · exact Or.inl hx
    · exact Or.inr ⟨by omega, onP_mono h h2⟩
/-- along the way, back from its end: what has been sent so far -/
def GI (ν : Nt) (c f : Nat → Int) (a z R : Nat) (via rk : Nat → Nat) (m : Int) (g : Nat → Int) (x : Nat) : Prop := (∀ l, l < ν.ln → 0 ≤ g l ∧ g l ≤ c l) ∧ (∀ y, y < 8 → ntf ν g y = ntf ν f y + (if y = x then m else 0) - (if y = z then m else 0)) ∧ ∀ l, g l ≠ f l → ∃ y, R.testBit y = true ∧ y ≠ a ∧ rk x < rk y ∧ eL (via y) = l
theorem GI_0 {R : Nat} {via rk : Nat → Nat} {m : Int} (h : ∀ l, l < ν.ln → 0 ≤ f l ∧ f l ≤ c l) : GI ν c f a z R via rk m f z := ⟨h, fun y hy => by split <;> omega, fun l hl => absurd rfl hl⟩
theorem GI_step {R x : Nat} {via rk : Nat → Nat} {m : Int} (hF : FO ν c f a R via rk) (hm : 0 ≤ m) (hG : GI ν c f a z R via rk m g x) (hx : R.testBit x = true) (hxa : x ≠ a) (hr : m ≤ eRs c f (via x)) (hb : ∀ l, l < ν.ln → 0 ≤ f l ∧ f l ≤ c l) : g (eL (via x)) = f (eL (via x)) ∧ GI ν c f a z R via rk m (upf g (eL (via x)) (eSg m (via x))) (ePv ν (via x)) := by
  obtain ⟨q1, q2, q3, q4, q5, q6⟩ := hF.2.2.2 x hx hxa
  have hgf : g (eL (via x)) = f (eL (via x)) := by
    apply Classical.byContradiction
    intro hne
    obtain ⟨y, y1, y2, y3, y4⟩ := hG.2.2 _ hne
    obtain ⟨p1, p2, p3, p4, p5, p6⟩ := hF.2.2.2 y y1 y2
    unfold eL at y4
    unfold eNd at q3 p3
    unfold ePv at q6 p6
    by_cases h1 : via x < 16 <;> by_cases h2 : via y < 16
    · rw [if_pos h1, if_pos h2] at y4
      rw [if_pos h1] at q3
      rw [if_pos h2, y4, q3] at p3
      rw [p3] at y3
      omega
    · rw [if_pos h1, if_neg h2] at y4
      rw [if_pos h1] at q6
      rw [if_neg h2, y4] at p3
      rw [p3] at q6
      omega
    · rw [if_neg h1, if_pos h2] at y4
      rw [if_neg h1] at q6
      rw [if_pos h2, y4] at p3
      rw [p3] at q6
      omega
    · rw [if_neg h1, if_neg h2] at y4
      rw [if_neg h1] at q3
      rw [if_neg h2, y4, q3] at p3
      rw [p3] at y3
      omega
  refine ⟨hgf, fun l hl => ?_, fun y hy => ?_, fun l hl => ?_⟩
  · unfold upf
    by_cases e : l = eL (via x)
    · rw [if_pos e, hgf]
      have h1 := hb _ q2
      unfold eRs at hr
      unfold eSg
      rw [e]
      by_cases h2 : via x < 16
      · have e2 : eL (via x) = via x := if_pos h2
        rw [if_pos h2] at hr
        rw [if_pos h2, e2]
        rw [e2] at h1
        omega
      · have e2 : eL (via x) = via x - 16 := if_neg h2
        rw [if_neg h2] at hr
        rw [if_neg h2, e2]
        rw [e2] at h1
        omega
    · rw [if_neg e]; exact hG.1 l hl
  · rw [ntf_up q2, hG.2.1 y hy]
    unfold eSg
    by_cases h2 : via x < 16
    · have e2 : eL (via x) = via x := if_pos h2
      have e3 : ePv ν (via x) = ν.L (via x) 0 := if_pos h2
      have e4 : ν.L (via x) 1 = x := by have := q3; unfold eNd at this; rwa [if_pos h2] at this
      rw [if_pos h2, e2, e3, e4]
      by_cases h3 : y = x <;> by_cases h4 : y = ν.L (via x) 0 <;> by_cases h5 : y = z <;> simp only [h3, h4, h5, if_true, if_false, eq_comm] <;> (try simp_all) <;> (try omega)
    · have e2 : eL (via x) = via x - 16 := if_neg h2
      have e3 : ePv ν (via x) = ν.L (via x - 16) 1 := if_neg h2
      have e4 : ν.L (via x - 16) 0 = x := by have := q3; unfold eNd at this; rwa [if_neg h2] at this
      rw [if_neg h2, e2, e3, e4]
      by_cases h3 : y = x <;> by_cases h4 : y = ν.L (via x - 16) 1 <;> by_cases h5 : y = z <;> simp only [h3, h4, h5, if_true, if_false, eq_comm] <;> (try simp_all) <;> (try omega)
  · by_cases e : l = eL (via x)
    · exact ⟨x, hx, hxa, q6, e.symm⟩
    · unfold upf at hl
      rw [if_neg e] at hl
      obtain ⟨y, y1, y2, y3, y4⟩ := hG.2.2 l hl
      exact ⟨y, y1, y2, by omega, y4⟩
theorem GI_fin {R : Nat} {via rk : Nat → Nat} {m : Int} (ha : a < 8) (haz : a ≠ z) (h : Vf ν c a z f v) (hG : GI ν c f a z R via rk m g a) : Vf ν c a z g (v + m) := by
  refine ⟨hG.1, fun x hx h1 h2 => ?_, ?_⟩
  · rw [hG.2.1 x hx, if_neg h1, if_neg h2, h.2.1 x hx h1 h2]; omega
  · rw [hG.2.1 a ha, if_pos rfl, if_neg haz, h.2.2]; omega
end Flow0
