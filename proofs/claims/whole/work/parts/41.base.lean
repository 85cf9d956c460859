/-! numbers, bits, loops, sums -/
def zI (z : Int) : Int32 := Int32.ofInt z
theorem zI_nat (n : Nat) : zI (n : Int) = nI n := Int32.ofInt_eq_ofNat
theorem zI_add (a b : Int) : zI a + zI b = zI (a + b) := (Int32.ofInt_add a b).symm
theorem zI_sub (a b : Int) : zI a - zI b = zI (a - b) := (Int32.ofInt_sub a b).symm
theorem zI_mul (a b : Int) : zI a * zI b = zI (a * b) := (Int32.ofInt_mul a b).symm
theorem zI_subn (a : Int) (n : Nat) : zI a - nI n = zI (a - n) := by rw [← zI_nat, zI_sub]
theorem zI_addn (a : Int) (n : Nat) : zI a + nI n = zI (a + n) := by rw [← zI_nat, zI_add]
def sml (z : Int) : Prop := -2147483648 ≤ z ∧ z < 2147483648
theorem zI_toInt {z : Int} (h : sml z) : (zI z).toInt = z := Int32.toInt_ofInt_of_le (by have := h.1; omega) (by have := h.2; omega)
theorem zI_le {a b : Int} (ha : sml a) (hb : sml b) : zI a ≤ zI b ↔ a ≤ b := by rw [Int32.le_iff_toInt_le, zI_toInt ha, zI_toInt hb]
theorem zI_lt {a b : Int} (ha : sml a) (hb : sml b) : zI a < zI b ↔ a < b := by rw [Int32.lt_iff_toInt_lt, zI_toInt ha, zI_toInt hb]
theorem zI_inj {a b : Int} (ha : sml a) (hb : sml b) : zI a = zI b ↔ a = b := by rw [← Int32.toInt_inj, zI_toInt ha, zI_toInt hb]
theorem sml_n {n : Nat} (h : n < 2147483648) : sml (n : Int) := ⟨by omega, by omega⟩
theorem zI_toInt' (x : Int32) : zI x.toInt = x := Int32.ofInt_toInt x
theorem nI_m1 {n : Nat} (h : n < 2147483648) : ¬ nI n = -1 := by
  intro e
  have := congrArg Int32.toInt e
  rw [nI_toInt (by omega)] at this
  have h2 : (-1 : Int32).toInt = -1 := by decide
  rw [h2] at this
  omega
theorem nI_0' : nI 0 = 0 := rfl
theorem nI_eq0 {n : Nat} (h : n < 2147483648) : nI n = 0 ↔ n = 0 := by
  rw [← nI_0', nI_eq (by omega) (by omega)]
/-- the index is within -/
theorem ck_n {α : Type} {i n : Nat} {x : Option α} (h : i < n) (hn : n ≤ 4000) : ck (nI i) n x = x := by
  unfold ck inb
  rw [nI_clamp (by omega), decide_eq_true h, decide_eq_false (nI_pos (by omega))]
  rfl
theorem nz_n {α : Type} {i : Int32} {x : Option α} (h : ¬ i = 0) : nz i x = x := if_neg h
theorem nm_n {α β : Type} (e : α) (f : α → β) : nm e f = f e := rfl
theorem zo_0 {α : Type} {x : Option α} : zo 0 x = x := if_pos (Or.inl rfl)
theorem zo_1 {α : Type} {x : Option α} : zo 1 x = x := if_pos (Or.inr rfl)
theorem ob_some {α β : Type} (a : α) (f : α → Option β) : Option.bind (some a) f = f a := rfl
theorem lb_l {α β ρ : Type} (a : α) (f : α → Option β) (g : ρ → Option β) : lbind (some (.inl a)) f g = f a := rfl
theorem lb_r {α β ρ : Type} (a : ρ) (f : α → Option β) (g : ρ → Option β) : lbind (some (.inr a)) f g = g a := rfl
/-! bits -/
theorem b_1 (i : Nat) : bt 1 i = decide (i = 0) := by
  rcases Nat.lt_or_ge i 32 with h | h
  · exact (by decide +kernel : ∀ i, i < 32 → bt 1 i = decide (i = 0)) i h
  · rw [b_big h, decide_eq_false (by omega)]
theorem b_sh1 {l i : Nat} (hl : l < 32) (hi : i < 32) : bt ((1 : Int32) <<< (nI l &&& 31)) i = decide (i = l) := by
  rw [b_shl l hl _ hi, b_1]
  by_cases h : i = l
  · subst h; simp
  · by_cases h2 : l ≤ i
    · have : ¬ i - l = 0 := by omega
      simp [h, this]
    · simp [h, h2]
/-- a bit, as the class reads it -/
theorem cbv {l : Nat} (hl : l < 32) (x : Int32) : (ushr x (nI l)) &&& 1 = if bt x l = true then 1 else 0 := by
  apply b_ext
  intro i hi
  rw [b_and, b_1, show ushr x (nI l) = (x.toUInt32 >>> ((nI l).toUInt32 &&& Int32.toUInt32 31)).toInt32 from rfl, b_ushr l hl]
  by_cases h0 : i = 0
  · subst h0
    cases h : bt x l <;> simp [h, b_0, b_1]
  · cases h : bt x l <;> simp [h0, b_0, b_1]
/-- as the reference reads it -/
theorem mbv {l : Nat} (hl : l < 32) (x : Int32) : (x >>> (nI l &&& 31)) &&& 1 = if bt x l = true then 1 else 0 := by
  apply b_ext
  intro i hi
  rw [b_and, b_1, b_sshr l hl x hi]
  by_cases h0 : i = 0
  · subst h0
    rw [if_pos (by omega)]
    cases h : bt x l <;> simp [h, b_0, b_1]
  · cases h : bt x l <;> simp [h0, b_0, b_1]
theorem cb0 {l : Nat} (hl : l < 32) (x : Int32) : (ushr x (nI l)) &&& 1 = 0 ↔ bt x l = false := by
  rw [cbv hl]
  cases bt x l <;> simp
theorem mb1 {l : Nat} (hl : l < 32) (x : Int32) : (x >>> (nI l &&& 31)) &&& 1 = 1 ↔ bt x l = true := by
  rw [mbv hl]
  cases bt x l <;> simp
theorem mb0 {l : Nat} (hl : l < 32) (x : Int32) : (x >>> (nI l &&& 31)) &&& 1 = 0 ↔ bt x l = false := by
  rw [mbv hl]
  cases bt x l <;> simp
theorem b_not {i : Nat} (hi : i < 32) (x y : Int32) : bt (x &&& (y ^^^ (-1))) i = (bt x i && !bt y i) := by
  rw [b_and, b_xor, b_m1 i hi]
  cases bt x i <;> cases bt y i <;> rfl
theorem b_nI {n i : Nat} (hi : i < 32) : bt (nI n) i = n.testBit i := by
  show (BitVec.ofNat 32 n).getLsbD i = n.testBit i
  rw [BitVec.getLsbD_ofNat]
  simp [hi]
/-- a row of numbers as bits -/
def wb : List Nat → Int32
  | [] => 0
  | l :: t => wb t ||| ((1 : Int32) <<< (nI l &&& 31))
theorem b_wb {i : Nat} (hi : i < 32) : ∀ (p : List Nat), (∀ l ∈ p, l < 32) → bt (wb p) i = decide (i ∈ p)
  | [], _ => by simp [wb, b_0]
  | l :: t, h => by
    rw [wb, b_or, b_wb hi t (fun x hx => h x (List.mem_cons_of_mem _ hx)), b_sh1 (h l List.mem_cons_self) hi]
    by_cases h1 : i = l <;> by_cases h2 : i ∈ t <;> simp [h1, h2]
/-- numbers below n with a property, as bits -/
def bm (p : Nat → Bool) : Nat → Int32
  | 0 => 0
  | n + 1 => if p n then bm p n ||| ((1 : Int32) <<< (nI n &&& 31)) else bm p n
theorem b_bm {i : Nat} (hi : i < 32) (p : Nat → Bool) : ∀ n, n ≤ 32 → bt (bm p n) i = (decide (i < n) && p i)
  | 0, _ => by simp [bm, b_0]
  | n + 1, h => by
    have ih := b_bm hi p n (by omega)
    by_cases hin : i = n
    · subst hin
      cases hp : p i with
      | true => rw [bm, hp, if_pos rfl, b_or, b_sh1 hi hi]; simp
      | false =>
        rw [bm, hp]
        simp only [Bool.false_eq_true, if_false]
        rw [ih]
        simp
    · have e : (decide (i < n + 1)) = decide (i < n) := by simp; omega
      rw [e, ← ih, bm]
      split
      · rw [b_or, b_sh1 (by omega) hi]; simp [hin]
      · rfl
theorem bm_congr {p q : Nat → Bool} : ∀ {n : Nat}, (∀ k, k < n → p k = q k) → bm p n = bm q n
  | 0, _ => rfl
  | n + 1, h => by rw [bm, bm, bm_congr (n := n) (fun k hk => h k (by omega)), h n (by omega)]
/-! sums -/
def sm (f : Nat → Int) : Nat → Int
  | 0 => 0
  | n + 1 => sm f n + f n
theorem sm_congr {f g : Nat → Int} : ∀ {n : Nat}, (∀ k, k < n → f k = g k) → sm f n = sm g n
  | 0, _ => rfl
  | n + 1, h => by rw [sm, sm, sm_congr (n := n) (fun k hk => h k (by omega)), h n (by omega)]
theorem sm_add (f g : Nat → Int) : ∀ n, sm (fun k => f k + g k) n = sm f n + sm g n
  | 0 => rfl
  | n + 1 => by rw [sm, sm, sm, sm_add f g n]; omega
theorem sm_le {f g : Nat → Int} : ∀ {n : Nat}, (∀ k, k < n → f k ≤ g k) → sm f n ≤ sm g n
  | 0, _ => Int.le_refl _
  | n + 1, h => by
    rw [sm, sm]
    have h1 := sm_le (n := n) (fun k hk => h k (by omega))
    have h2 := h n (by omega)
    omega
theorem sm_bd {f : Nat → Int} {B : Nat} : ∀ {n : Nat}, (∀ k, k < n → 0 ≤ f k ∧ f k ≤ B) → 0 ≤ sm f n ∧ sm f n ≤ (n * B : Nat)
  | 0, _ => ⟨Int.le_refl _, by simp [sm]⟩
  | n + 1, h => by
    have h1 := sm_bd (n := n) (fun k hk => h k (by omega))
    have h2 := h n (by omega)
    rw [sm, Nat.succ_mul]
    omega
theorem sm_0 : ∀ n, sm (fun _ => 0) n = 0
  | 0 => rfl
  | n + 1 => by rw [sm, sm_0 n]; rfl
/-- one term apart -/
theorem sm_one {f : Nat → Int} {j : Nat} : ∀ {n : Nat}, j < n → sm f n = sm (fun k => if k = j then 0 else f k) n + f j
  | n + 1, h => by
    by_cases hj : j = n
    · subst hj
      rw [sm, sm, if_pos rfl]
      have : sm (fun k => if k = j then 0 else f k) j = sm f j := sm_congr (fun k hk => if_neg (by omega))
      omega
    · rw [sm, sm, if_neg (fun e => hj e.symm), sm_one (f := f) (j := j) (n := n) (by omega)]
      omega
/-! loops: an index goes up to a bound -/
section Loops
variable {σ R : Type} {F : Nat → σ → Int32 → Option R} {b : Nat} {P : Nat → σ → Prop}
theorem loopP {out : σ → R} (hstop : ∀ n s, P b s → F (n + 1) s (nI b) = some (out s)) (hstep : ∀ n k s, k < b → P k s → ∃ s', F (n + 1) s (nI k) = F n s' (nI (k + 1)) ∧ P (k + 1) s') :
    ∀ (n k : Nat) (s : σ), k ≤ b → b < n + k → P k s → ∃ s', P b s' ∧ F n s (nI k) = some (out s')
  | 0, k, s, h1, h2, _ => by omega
  | n + 1, k, s, h1, h2, hp => by
    by_cases hk : k = b
    · subst hk; exact ⟨s, hp, hstop n s hp⟩
    · obtain ⟨s', e, hp'⟩ := hstep n k s (by omega) hp
      obtain ⟨s2, hp2, e2⟩ := loopP hstop hstep n (k + 1) s' (by omega) (by omega) hp'
      exact ⟨s2, hp2, e.trans e2⟩
/-- one that may end early with r, of which Q holds -/
theorem loopR {out : σ → R} {Qr : R → Prop} (hstop : ∀ n s, P b s → F (n + 1) s (nI b) = some (out s)) (hstep : ∀ n k s, k < b → P k s → (∃ s', F (n + 1) s (nI k) = F n s' (nI (k + 1)) ∧ P (k + 1) s') ∨ ∃ r, F (n + 1) s (nI k) = some r ∧ Qr r) :
    ∀ (n k : Nat) (s : σ), k ≤ b → b < n + k → P k s → (∃ s', P b s' ∧ F n s (nI k) = some (out s')) ∨ ∃ r, F n s (nI k) = some r ∧ Qr r
  | 0, k, s, h1, h2, _ => by omega
  | n + 1, k, s, h1, h2, hp => by
    by_cases hk : k = b
    · subst hk; exact Or.inl ⟨s, hp, hstop n s hp⟩
    · rcases hstep n k s (by omega) hp with ⟨s', e, hp'⟩ | ⟨r, e, hr⟩
      · rcases loopR hstop hstep n (k + 1) s' (by omega) (by omega) hp' with ⟨s2, hp2, e2⟩ | ⟨r, e2, hr⟩
        · exact Or.inl ⟨s2, hp2, e.trans e2⟩
        · exact Or.inr ⟨r, e.trans e2, hr⟩
      · exact Or.inr ⟨r, e, hr⟩
end Loops
/-! places of the heap that stay -/
theorem u2_at {I : gI} {a j : Nat} {v : Int32} : upd2 I a j v a j = v := by simp [upd2]
theorem u2_ne {I : gI} {a j a' j' : Nat} {v : Int32} (h : ¬ (a' = a ∧ j' = j)) : upd2 I a j v a' j' = I a' j' := if_neg h
theorem u2_c {I : gI} {a j a' : Nat} {v : Int32} (h : a' ≠ a) : upd2 I a j v a' = I a' := by funext b; exact u2_ne (fun e => h e.1)
theorem nI_mul (a b : Nat) : nI a * nI b = nI (a * b) := (Int32.ofNat_mul a b).symm
theorem nI_sub {a b : Nat} (h : b ≤ a) : nI a - nI b = nI (a - b) := by
  rw [← zI_nat, ← zI_nat, zI_sub, ← zI_nat]
  congr 1
  omega
