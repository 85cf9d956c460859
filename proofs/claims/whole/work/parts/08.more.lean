theorem vp_lt {i : Int32} {n : Nat} (h : vp_in i n) : i.toNatClampNeg < n := by unfold vp_in at h; omega
def lt9 {α : Type} (a b : Nat) (x : Option α) : Option α := if a ≤ b then x else none
theorem lt9_inv {α : Type} {i n : Nat} {x : Option α} {a : α} (h : lt9 i n x = some a) : i ≤ n ∧ x = some a := by
  unfold lt9 at h
  by_cases hi : i ≤ n
  · rw [if_pos hi] at h; exact ⟨hi, h⟩
  · rw [if_neg hi] at h; cases h
/-- a name for what is long -/
def nm {α β : Type} (e : α) (f : α → β) : β := f e
theorem nm_inv {α β : Type} {e : α} {f : α → Option β} {r : β} (h : nm e f = some r) : ∃ x, x = e ∧ f x = some r := ⟨e, rfl, h⟩
section More
variable {own : String} {cc : ByteArray} {nL : Nat} {ret : Option FieldType} {hh : List ExceptionTableEntry} {isI : gH} {d rc rs pc : Nat} {ls ls' : List (Nat × Value)} {st : List Value} {S : gS} {I : gI} {J : gJ} {Q : gO → gS → gI → gJ → Prop}
theorem wp_topi {x e : Int32} (hx : x = e) (k : Wp own cc nL ret hh isI d rc rs pc ls (.int x :: st) S I J Q) : Wp own cc nL ret hh isI d rc rs pc ls (.int e :: st) S I J Q := hx ▸ k
theorem wp_topl {x e : Int64} (hx : x = e) (k : Wp own cc nL ret hh isI d rc rs pc ls (.long x :: st) S I J Q) : Wp own cc nL ret hh isI d rc rs pc ls (.long e :: st) S I J Q := hx ▸ k
theorem wp_nmI {x e : gI} (hx : x = e) (k : Wp own cc nL ret hh isI d rc rs pc ls st S x J Q) : Wp own cc nL ret hh isI d rc rs pc ls st S e J Q := hx ▸ k
theorem wp_nmJ {x e : gJ} (hx : x = e) (k : Wp own cc nL ret hh isI d rc rs pc ls st S I x Q) : Wp own cc nL ret hh isI d rc rs pc ls st S I e Q := hx ▸ k
end More
theorem i32e {x c : Int32} (h : x.toInt = c.toInt) : x = c := Int32.toInt_inj.mp h
/-- the heap behind an outcome: as it was where it threw -/
def oS {α : Type} (r : α ⊕ String) (S1 S0 : gS) : gS := match r with
  | .inl _ => S1
  | .inr _ => S0
