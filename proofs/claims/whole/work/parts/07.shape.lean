/-! inversions: what a made function says of its steps -/
theorem nso {α : Type} {a : α} {p : Prop} (h : (none : Option α) = some a) : p := by cases h
theorem sji {α : Type} {a b : α} (h : some a = some b) : a = b := Option.some.inj h
theorem ite_t {c : Prop} {i : Decidable c} {α : Type} {a b x : α} (hc : c) (h : @ite α c i a b = x) : a = x := by rw [if_pos hc] at h; exact h
theorem ite_f {c : Prop} {i : Decidable c} {α : Type} {a b x : α} (hc : ¬ c) (h : @ite α c i a b = x) : b = x := by rw [if_neg hc] at h; exact h
def inb (i : Int32) (n : Nat) : Bool := !(decide (i < 0)) && decide (i.toNatClampNeg < n)
theorem inb_in {i : Int32} {n : Nat} (h : inb i n = true) : vp_in i n := by
  unfold inb at h
  unfold vp_in
  simp at h
  intro h2
  rcases h2 with h2 | h2
  · exact absurd h2 (by simpa using h.1)
  · omega
/-- a place is asked for -/
def ck {α : Type} (i : Int32) (n : Nat) (x : Option α) : Option α := bif inb i n then x else none
theorem ck_inv {α : Type} {i : Int32} {n : Nat} {x : Option α} {a : α} (h : ck i n x = some a) : vp_in i n ∧ x = some a := by
  unfold ck at h
  cases hb : inb i n with
  | true => rw [hb] at h; exact ⟨inb_in hb, h⟩
  | false => rw [hb] at h; cases h
/-- a divisor isn't 0 -/
def nz {α : Type} (i : Int32) (x : Option α) : Option α := if i = 0 then none else x
theorem nz_inv {α : Type} {i : Int32} {x : Option α} {a : α} (h : nz i x = some a) : ¬ i = 0 ∧ x = some a := by
  unfold nz at h
  by_cases hi : i = 0
  · rw [if_pos hi] at h; cases h
  · rw [if_neg hi] at h; exact ⟨hi, h⟩
/-- a number is 0 or 1 -/
def zo {α : Type} (i : Int32) (x : Option α) : Option α := if i = 0 ∨ i = 1 then x else none
theorem zo_inv {α : Type} {i : Int32} {x : Option α} {a : α} (h : zo i x = some a) : (i = 0 ∨ i = 1) ∧ x = some a := by
  unfold zo at h
  by_cases hi : i = 0 ∨ i = 1
  · rw [if_pos hi] at h; exact ⟨hi, h⟩
  · rw [if_neg hi] at h; cases h
/-- a number isn't below 0 -/
def nn {α : Type} (i : Int32) (x : Option α) : Option α := if i < 0 then none else x
theorem nn_inv {α : Type} {i : Int32} {x : Option α} {a : α} (h : nn i x = some a) : ¬ i < 0 ∧ x = some a := by
  unfold nn at h
  by_cases hi : i < 0
  · rw [if_pos hi] at h; cases h
  · rw [if_neg hi] at h; exact ⟨hi, h⟩
theorem obi {α β : Type} {x : Option α} {f : α → Option β} {b : β} (h : x.bind f = some b) : ∃ a, x = some a ∧ f a = some b := by
  cases x with
  | none => cases h
  | some a => exact ⟨a, rfl, h⟩
def lbind {α β ρ : Type} (x : Option (α ⊕ ρ)) (f : α → Option β) (g : ρ → Option β) : Option β := match x with
  | none => none
  | some (.inl a) => f a
  | some (.inr r) => g r
theorem lbi {α β ρ : Type} {x : Option (α ⊕ ρ)} {f : α → Option β} {g : ρ → Option β} {b : β} (h : lbind x f g = some b) : (∃ a, x = some (.inl a) ∧ f a = some b) ∨ ∃ r, x = some (.inr r) ∧ g r = some b := by
  match x, h with
  | some (.inl a), h => exact Or.inl ⟨a, rfl, h⟩
  | some (.inr r), h => exact Or.inr ⟨r, rfl, h⟩

def shK : List (Nat × Nat) := [(15, 0), (1, 700), (9, 0), (0, 16), (0, 16), (0, 16), (0, 16), (0, 16), (0, 9), (0, 9), (0, 9), (0, 9), (0, 9), (0, 9), (0, 9), (9, 0), (0, 16), (0, 16), (0, 16), (0, 16), (0, 16), (0, 9), (0, 9), (0, 9), (0, 9), (0, 9), (0, 9), (0, 9), (10, 0), (1, 0), (11, 0), (0, 16), (0, 64), (0, 64), (0, 16), (0, 8), (13, 0), (0, 9), (0, 9), (13, 0), (0, 9), (0, 9), (7, 0), (8, 0), (13, 0), (0, 9), (0, 9), (0, 16), (0, 9), (0, 512), (7, 0), (5, 0), (4, 40), (13, 0), (0, 9), (0, 9), (13, 0), (0, 9), (0, 9), (13, 0), (0, 9), (0, 9), (13, 0), (0, 9), (0, 9), (13, 0), (0, 9), (0, 9), (13, 0), (0, 9), (0, 9), (13, 0), (0, 9), (0, 9), (13, 0), (0, 9), (0, 9), (13, 0), (0, 9), (0, 9), (13, 0), (0, 9), (0, 9), (13, 0), (0, 9), (0, 9), (13, 0), (0, 9), (0, 9), (13, 0), (0, 9), (0, 9), (13, 0), (0, 9), (0, 9), (13, 0), (0, 9), (0, 9), (13, 0), (0, 9), (0, 9), (13, 0), (0, 9), (0, 9), (13, 0), (0, 9), (0, 9), (13, 0), (0, 9), (0, 9), (13, 0), (0, 9), (0, 9), (13, 0), (0, 9), (0, 9), (13, 0), (0, 9), (0, 9), (13, 0), (0, 9), (0, 9), (13, 0), (0, 9), (0, 9), (13, 0), (0, 9), (0, 9), (13, 0), (0, 9), (0, 9), (13, 0), (0, 9), (0, 9), (13, 0), (0, 9), (0, 9), (13, 0), (0, 9), (0, 9), (13, 0), (0, 9), (0, 9), (13, 0), (0, 9), (0, 9), (13, 0), (0, 9), (0, 9), (13, 0), (0, 9), (0, 9), (13, 0), (0, 9), (0, 9), (13, 0), (0, 9), (0, 9), (13, 0), (0, 9), (0, 9), (13, 0), (0, 9), (0, 9), (13, 0), (0, 9), (0, 9), (13, 0), (0, 9), (0, 9), (13, 0), (0, 9), (0, 9), (12, 0), (0, 8), (0, 8), (0, 8), (0, 8), (2, 8), (13, 0), (0, 9), (0, 9), (5, 0), (4, 40), (13, 0), (0, 9), (0, 9), (13, 0), (0, 9), (0, 9), (13, 0), (0, 9), (0, 9), (13, 0), (0, 9), (0, 9), (13, 0), (0, 9), (0, 9), (13, 0), (0, 9), (0, 9), (13, 0), (0, 9), (0, 9), (13, 0), (0, 9), (0, 9), (13, 0), (0, 9), (0, 9), (13, 0), (0, 9), (0, 9), (13, 0), (0, 9), (0, 9), (13, 0), (0, 9), (0, 9), (13, 0), (0, 9), (0, 9), (13, 0), (0, 9), (0, 9), (13, 0), (0, 9), (0, 9), (13, 0), (0, 9), (0, 9), (13, 0), (0, 9), (0, 9), (13, 0), (0, 9), (0, 9), (13, 0), (0, 9), (0, 9), (13, 0), (0, 9), (0, 9), (13, 0), (0, 9), (0, 9), (13, 0), (0, 9), (0, 9), (13, 0), (0, 9), (0, 9), (13, 0), (0, 9), (0, 9), (13, 0), (0, 9), (0, 9), (13, 0), (0, 9), (0, 9), (13, 0), (0, 9), (0, 9), (13, 0), (0, 9), (0, 9), (13, 0), (0, 9), (0, 9), (13, 0), (0, 9), (0, 9), (13, 0), (0, 9), (0, 9), (13, 0), (0, 9), (0, 9), (13, 0), (0, 9), (0, 9), (13, 0), (0, 9), (0, 9), (13, 0), (0, 9), (0, 9), (13, 0), (0, 9), (0, 9), (13, 0), (0, 9), (0, 9), (13, 0), (0, 9), (0, 9), (13, 0), (0, 9), (0, 9), (13, 0), (0, 9), (0, 9), (12, 0), (0, 8), (0, 8), (0, 8), (0, 8), (2, 8), (16, 0), (0, 700), (0, 3), (0, 80), (0, 80), (0, 63), (0, 63), (0, 164), (0, 3280), (2, 16), (0, 16), (0, 8), (0, 7), (0, 2048), (0, 2048), (0, 9), (0, 63), (0, 9), (2, 512), (0, 16), (0, 16), (0, 8), (0, 8), (0, 40), (0, 82), (0, 3280), (0, 40), (3, 1)]
def shR : List (List (Option Nat)) := [[some 1, none, none, none, none, none, some 2, some 15, some 28, some 30, some 36, some 39, some 42, some 43, some 51, some 173, none, some 179, some 182, some 304], [], [none, none, none, some 3, some 4, some 5, some 6, some 7, some 8, some 9, some 10, some 11, some 12, some 13, some 14], [], [], [], [], [], [], [], [], [], [], [], [], [none, none, none, some 16, some 17, some 18, some 19, some 20, some 21, some 22, some 23, some 24, some 25, some 26, some 27], [], [], [], [], [], [], [], [], [], [], [], [], [], [], [some 2, some 31, some 32, some 33, some 34, some 35], [], [], [], [], [], [some 37, some 38], [], [], [some 40, some 41], [], [], [some 2, some 30, some 36], [some 2, some 42, some 36, some 44, some 50, some 47, some 48, some 49], [some 45, some 46], [], [], [], [], [], [some 2, some 30, some 44], [some 52], [some 53, some 56, some 59, some 62, some 65, some 68, some 71, some 74, some 77, some 80, some 83, some 86, some 89, some 92, some 95, some 98, some 101, some 104, some 107, some 110, some 113, some 116, some 119, some 122, some 125, some 128, some 131, some 134, some 137, some 140, some 143, some 146, some 149, some 152, some 155, some 158, some 161, some 164, some 167, some 170], [some 54, some 55], [], [], [some 57, some 58], [], [], [some 60, some 61], [], [], [some 63, some 64], [], [], [some 66, some 67], [], [], [some 69, some 70], [], [], [some 72, some 73], [], [], [some 75, some 76], [], [], [some 78, some 79], [], [], [some 81, some 82], [], [], [some 84, some 85], [], [], [some 87, some 88], [], [], [some 90, some 91], [], [], [some 93, some 94], [], [], [some 96, some 97], [], [], [some 99, some 100], [], [], [some 102, some 103], [], [], [some 105, some 106], [], [], [some 108, some 109], [], [], [some 111, some 112], [], [], [some 114, some 115], [], [], [some 117, some 118], [], [], [some 120, some 121], [], [], [some 123, some 124], [], [], [some 126, some 127], [], [], [some 129, some 130], [], [], [some 132, some 133], [], [], [some 135, some 136], [], [], [some 138, some 139], [], [], [some 141, some 142], [], [], [some 144, some 145], [], [], [some 147, some 148], [], [], [some 150, some 151], [], [], [some 153, some 154], [], [], [some 156, some 157], [], [], [some 159, some 160], [], [], [some 162, some 163], [], [], [some 165, some 166], [], [], [some 168, some 169], [], [], [some 171, some 172], [], [], [some 174, some 175, some 176, some 177, some 178], [], [], [], [], [], [some 180, some 181], [], [], [some 183], [some 184, some 187, some 190, some 193, some 196, some 199, some 202, some 205, some 208, some 211, some 214, some 217, some 220, some 223, some 226, some 229, some 232, some 235, some 238, some 241, some 244, some 247, some 250, some 253, some 256, some 259, some 262, some 265, some 268, some 271, some 274, some 277, some 280, some 283, some 286, some 289, some 292, some 295, some 298, some 301], [some 185, some 186], [], [], [some 188, some 189], [], [], [some 191, some 192], [], [], [some 194, some 195], [], [], [some 197, some 198], [], [], [some 200, some 201], [], [], [some 203, some 204], [], [], [some 206, some 207], [], [], [some 209, some 210], [], [], [some 212, some 213], [], [], [some 215, some 216], [], [], [some 218, some 219], [], [], [some 221, some 222], [], [], [some 224, some 225], [], [], [some 227, some 228], [], [], [some 230, some 231], [], [], [some 233, some 234], [], [], [some 236, some 237], [], [], [some 239, some 240], [], [], [some 242, some 243], [], [], [some 245, some 246], [], [], [some 248, some 249], [], [], [some 251, some 252], [], [], [some 254, some 255], [], [], [some 257, some 258], [], [], [some 260, some 261], [], [], [some 263, some 264], [], [], [some 266, some 267], [], [], [some 269, some 270], [], [], [some 272, some 273], [], [], [some 275, some 276], [], [], [some 278, some 279], [], [], [some 281, some 282], [], [], [some 284, some 285], [], [], [some 287, some 288], [], [], [some 290, some 291], [], [], [some 293, some 294], [], [], [some 296, some 297], [], [], [some 299, some 300], [], [], [some 302, some 303], [], [], [some 305, some 306, some 307, some 308, some 309], [], [], [], [], [], [none, some 311, none, none, none, some 312, none, none, none, none, none, none, none, none, none, none, none, none, none, some 313, some 314, some 315, some 316, some 317, some 318, none, some 319, some 320, some 321, some 322, some 323, some 324, none, none, none, none, none, some 325, some 326, some 327, some 328, some 329, some 330, some 331, some 332, none, some 333, none, none, none, none, some 334, some 335, some 336], [], [], [], [], [], [], [], [], [], [], [], [], [], [], [], [], [], [], [], [], [], [], [], [], [], [], []]
/-- the heap has the cells that the two objects and the law's row are made of -/
def Sh (S : gS) : Prop := (∀ k kd, shK[k]? = some kd → S.1 k = kd) ∧ (∀ k j r, ((shR[k]?).bind fun l => l[j]?) = some (some r) → S.2.1 k j = some r) ∧ 338 ≤ S.2.2
section Shape
variable {S : gS}
theorem sk0 (h : Sh S) : S.1 0 = (15, 0) := h.1 0 _ rfl
theorem sn0 (h : Sh S) : 0 < S.2.2 := Nat.lt_of_lt_of_le (Nat.le_of_ble_eq_true rfl) h.2.2
theorem sr0_0 (h : Sh S) : S.2.1 0 0 = some 1 := h.2.1 0 0 _ rfl
theorem sr0_6 (h : Sh S) : S.2.1 0 6 = some 2 := h.2.1 0 6 _ rfl
theorem sr0_7 (h : Sh S) : S.2.1 0 7 = some 15 := h.2.1 0 7 _ rfl
theorem sr0_8 (h : Sh S) : S.2.1 0 8 = some 28 := h.2.1 0 8 _ rfl
theorem sr0_9 (h : Sh S) : S.2.1 0 9 = some 30 := h.2.1 0 9 _ rfl
theorem sr0_10 (h : Sh S) : S.2.1 0 10 = some 36 := h.2.1 0 10 _ rfl
theorem sr0_11 (h : Sh S) : S.2.1 0 11 = some 39 := h.2.1 0 11 _ rfl
theorem sr0_12 (h : Sh S) : S.2.1 0 12 = some 42 := h.2.1 0 12 _ rfl
theorem sr0_13 (h : Sh S) : S.2.1 0 13 = some 43 := h.2.1 0 13 _ rfl
theorem sr0_14 (h : Sh S) : S.2.1 0 14 = some 51 := h.2.1 0 14 _ rfl
theorem sr0_15 (h : Sh S) : S.2.1 0 15 = some 173 := h.2.1 0 15 _ rfl
theorem sr0_17 (h : Sh S) : S.2.1 0 17 = some 179 := h.2.1 0 17 _ rfl
theorem sr0_18 (h : Sh S) : S.2.1 0 18 = some 182 := h.2.1 0 18 _ rfl
theorem sr0_19 (h : Sh S) : S.2.1 0 19 = some 304 := h.2.1 0 19 _ rfl
theorem sk1 (h : Sh S) : S.1 1 = (1, 700) := h.1 1 _ rfl
theorem sn1 (h : Sh S) : 1 < S.2.2 := Nat.lt_of_lt_of_le (Nat.le_of_ble_eq_true rfl) h.2.2
theorem sk2 (h : Sh S) : S.1 2 = (9, 0) := h.1 2 _ rfl
theorem sn2 (h : Sh S) : 2 < S.2.2 := Nat.lt_of_lt_of_le (Nat.le_of_ble_eq_true rfl) h.2.2
theorem sr2_3 (h : Sh S) : S.2.1 2 3 = some 3 := h.2.1 2 3 _ rfl
theorem sr2_4 (h : Sh S) : S.2.1 2 4 = some 4 := h.2.1 2 4 _ rfl
theorem sr2_5 (h : Sh S) : S.2.1 2 5 = some 5 := h.2.1 2 5 _ rfl
theorem sr2_6 (h : Sh S) : S.2.1 2 6 = some 6 := h.2.1 2 6 _ rfl
theorem sr2_7 (h : Sh S) : S.2.1 2 7 = some 7 := h.2.1 2 7 _ rfl
theorem sr2_8 (h : Sh S) : S.2.1 2 8 = some 8 := h.2.1 2 8 _ rfl
theorem sr2_9 (h : Sh S) : S.2.1 2 9 = some 9 := h.2.1 2 9 _ rfl
theorem sr2_10 (h : Sh S) : S.2.1 2 10 = some 10 := h.2.1 2 10 _ rfl
theorem sr2_11 (h : Sh S) : S.2.1 2 11 = some 11 := h.2.1 2 11 _ rfl
theorem sr2_12 (h : Sh S) : S.2.1 2 12 = some 12 := h.2.1 2 12 _ rfl
theorem sr2_13 (h : Sh S) : S.2.1 2 13 = some 13 := h.2.1 2 13 _ rfl
theorem sr2_14 (h : Sh S) : S.2.1 2 14 = some 14 := h.2.1 2 14 _ rfl
theorem sk3 (h : Sh S) : S.1 3 = (0, 16) := h.1 3 _ rfl
theorem sn3 (h : Sh S) : 3 < S.2.2 := Nat.lt_of_lt_of_le (Nat.le_of_ble_eq_true rfl) h.2.2
theorem sk4 (h : Sh S) : S.1 4 = (0, 16) := h.1 4 _ rfl
theorem sn4 (h : Sh S) : 4 < S.2.2 := Nat.lt_of_lt_of_le (Nat.le_of_ble_eq_true rfl) h.2.2
theorem sk5 (h : Sh S) : S.1 5 = (0, 16) := h.1 5 _ rfl
theorem sn5 (h : Sh S) : 5 < S.2.2 := Nat.lt_of_lt_of_le (Nat.le_of_ble_eq_true rfl) h.2.2
theorem sk6 (h : Sh S) : S.1 6 = (0, 16) := h.1 6 _ rfl
theorem sn6 (h : Sh S) : 6 < S.2.2 := Nat.lt_of_lt_of_le (Nat.le_of_ble_eq_true rfl) h.2.2
theorem sk7 (h : Sh S) : S.1 7 = (0, 16) := h.1 7 _ rfl
theorem sn7 (h : Sh S) : 7 < S.2.2 := Nat.lt_of_lt_of_le (Nat.le_of_ble_eq_true rfl) h.2.2
theorem sk8 (h : Sh S) : S.1 8 = (0, 9) := h.1 8 _ rfl
theorem sn8 (h : Sh S) : 8 < S.2.2 := Nat.lt_of_lt_of_le (Nat.le_of_ble_eq_true rfl) h.2.2
theorem sk9 (h : Sh S) : S.1 9 = (0, 9) := h.1 9 _ rfl
theorem sn9 (h : Sh S) : 9 < S.2.2 := Nat.lt_of_lt_of_le (Nat.le_of_ble_eq_true rfl) h.2.2
theorem sk10 (h : Sh S) : S.1 10 = (0, 9) := h.1 10 _ rfl
theorem sn10 (h : Sh S) : 10 < S.2.2 := Nat.lt_of_lt_of_le (Nat.le_of_ble_eq_true rfl) h.2.2
theorem sk11 (h : Sh S) : S.1 11 = (0, 9) := h.1 11 _ rfl
theorem sn11 (h : Sh S) : 11 < S.2.2 := Nat.lt_of_lt_of_le (Nat.le_of_ble_eq_true rfl) h.2.2
theorem sk12 (h : Sh S) : S.1 12 = (0, 9) := h.1 12 _ rfl
theorem sn12 (h : Sh S) : 12 < S.2.2 := Nat.lt_of_lt_of_le (Nat.le_of_ble_eq_true rfl) h.2.2
theorem sk13 (h : Sh S) : S.1 13 = (0, 9) := h.1 13 _ rfl
theorem sn13 (h : Sh S) : 13 < S.2.2 := Nat.lt_of_lt_of_le (Nat.le_of_ble_eq_true rfl) h.2.2
theorem sk14 (h : Sh S) : S.1 14 = (0, 9) := h.1 14 _ rfl
theorem sn14 (h : Sh S) : 14 < S.2.2 := Nat.lt_of_lt_of_le (Nat.le_of_ble_eq_true rfl) h.2.2
theorem sk15 (h : Sh S) : S.1 15 = (9, 0) := h.1 15 _ rfl
theorem sn15 (h : Sh S) : 15 < S.2.2 := Nat.lt_of_lt_of_le (Nat.le_of_ble_eq_true rfl) h.2.2
theorem sr15_3 (h : Sh S) : S.2.1 15 3 = some 16 := h.2.1 15 3 _ rfl
theorem sr15_4 (h : Sh S) : S.2.1 15 4 = some 17 := h.2.1 15 4 _ rfl
theorem sr15_5 (h : Sh S) : S.2.1 15 5 = some 18 := h.2.1 15 5 _ rfl
theorem sr15_6 (h : Sh S) : S.2.1 15 6 = some 19 := h.2.1 15 6 _ rfl
theorem sr15_7 (h : Sh S) : S.2.1 15 7 = some 20 := h.2.1 15 7 _ rfl
theorem sr15_8 (h : Sh S) : S.2.1 15 8 = some 21 := h.2.1 15 8 _ rfl
theorem sr15_9 (h : Sh S) : S.2.1 15 9 = some 22 := h.2.1 15 9 _ rfl
theorem sr15_10 (h : Sh S) : S.2.1 15 10 = some 23 := h.2.1 15 10 _ rfl
theorem sr15_11 (h : Sh S) : S.2.1 15 11 = some 24 := h.2.1 15 11 _ rfl
theorem sr15_12 (h : Sh S) : S.2.1 15 12 = some 25 := h.2.1 15 12 _ rfl
theorem sr15_13 (h : Sh S) : S.2.1 15 13 = some 26 := h.2.1 15 13 _ rfl
theorem sr15_14 (h : Sh S) : S.2.1 15 14 = some 27 := h.2.1 15 14 _ rfl
theorem sk16 (h : Sh S) : S.1 16 = (0, 16) := h.1 16 _ rfl
theorem sn16 (h : Sh S) : 16 < S.2.2 := Nat.lt_of_lt_of_le (Nat.le_of_ble_eq_true rfl) h.2.2
theorem sk17 (h : Sh S) : S.1 17 = (0, 16) := h.1 17 _ rfl
theorem sn17 (h : Sh S) : 17 < S.2.2 := Nat.lt_of_lt_of_le (Nat.le_of_ble_eq_true rfl) h.2.2
theorem sk18 (h : Sh S) : S.1 18 = (0, 16) := h.1 18 _ rfl
theorem sn18 (h : Sh S) : 18 < S.2.2 := Nat.lt_of_lt_of_le (Nat.le_of_ble_eq_true rfl) h.2.2
theorem sk19 (h : Sh S) : S.1 19 = (0, 16) := h.1 19 _ rfl
theorem sn19 (h : Sh S) : 19 < S.2.2 := Nat.lt_of_lt_of_le (Nat.le_of_ble_eq_true rfl) h.2.2
theorem sk20 (h : Sh S) : S.1 20 = (0, 16) := h.1 20 _ rfl
theorem sn20 (h : Sh S) : 20 < S.2.2 := Nat.lt_of_lt_of_le (Nat.le_of_ble_eq_true rfl) h.2.2
theorem sk21 (h : Sh S) : S.1 21 = (0, 9) := h.1 21 _ rfl
theorem sn21 (h : Sh S) : 21 < S.2.2 := Nat.lt_of_lt_of_le (Nat.le_of_ble_eq_true rfl) h.2.2
theorem sk22 (h : Sh S) : S.1 22 = (0, 9) := h.1 22 _ rfl
theorem sn22 (h : Sh S) : 22 < S.2.2 := Nat.lt_of_lt_of_le (Nat.le_of_ble_eq_true rfl) h.2.2
theorem sk23 (h : Sh S) : S.1 23 = (0, 9) := h.1 23 _ rfl
theorem sn23 (h : Sh S) : 23 < S.2.2 := Nat.lt_of_lt_of_le (Nat.le_of_ble_eq_true rfl) h.2.2
theorem sk24 (h : Sh S) : S.1 24 = (0, 9) := h.1 24 _ rfl
theorem sn24 (h : Sh S) : 24 < S.2.2 := Nat.lt_of_lt_of_le (Nat.le_of_ble_eq_true rfl) h.2.2
theorem sk25 (h : Sh S) : S.1 25 = (0, 9) := h.1 25 _ rfl
theorem sn25 (h : Sh S) : 25 < S.2.2 := Nat.lt_of_lt_of_le (Nat.le_of_ble_eq_true rfl) h.2.2
theorem sk26 (h : Sh S) : S.1 26 = (0, 9) := h.1 26 _ rfl
theorem sn26 (h : Sh S) : 26 < S.2.2 := Nat.lt_of_lt_of_le (Nat.le_of_ble_eq_true rfl) h.2.2
theorem sk27 (h : Sh S) : S.1 27 = (0, 9) := h.1 27 _ rfl
theorem sn27 (h : Sh S) : 27 < S.2.2 := Nat.lt_of_lt_of_le (Nat.le_of_ble_eq_true rfl) h.2.2
theorem sk28 (h : Sh S) : S.1 28 = (10, 0) := h.1 28 _ rfl
theorem sn28 (h : Sh S) : 28 < S.2.2 := Nat.lt_of_lt_of_le (Nat.le_of_ble_eq_true rfl) h.2.2
theorem sk29 (h : Sh S) : S.1 29 = (1, 0) := h.1 29 _ rfl
theorem sn29 (h : Sh S) : 29 < S.2.2 := Nat.lt_of_lt_of_le (Nat.le_of_ble_eq_true rfl) h.2.2
theorem sk30 (h : Sh S) : S.1 30 = (11, 0) := h.1 30 _ rfl
theorem sn30 (h : Sh S) : 30 < S.2.2 := Nat.lt_of_lt_of_le (Nat.le_of_ble_eq_true rfl) h.2.2
theorem sr30_0 (h : Sh S) : S.2.1 30 0 = some 2 := h.2.1 30 0 _ rfl
theorem sr30_1 (h : Sh S) : S.2.1 30 1 = some 31 := h.2.1 30 1 _ rfl
theorem sr30_2 (h : Sh S) : S.2.1 30 2 = some 32 := h.2.1 30 2 _ rfl
theorem sr30_3 (h : Sh S) : S.2.1 30 3 = some 33 := h.2.1 30 3 _ rfl
theorem sr30_4 (h : Sh S) : S.2.1 30 4 = some 34 := h.2.1 30 4 _ rfl
theorem sr30_5 (h : Sh S) : S.2.1 30 5 = some 35 := h.2.1 30 5 _ rfl
theorem sk31 (h : Sh S) : S.1 31 = (0, 16) := h.1 31 _ rfl
theorem sn31 (h : Sh S) : 31 < S.2.2 := Nat.lt_of_lt_of_le (Nat.le_of_ble_eq_true rfl) h.2.2
theorem sk32 (h : Sh S) : S.1 32 = (0, 64) := h.1 32 _ rfl
theorem sn32 (h : Sh S) : 32 < S.2.2 := Nat.lt_of_lt_of_le (Nat.le_of_ble_eq_true rfl) h.2.2
theorem sk33 (h : Sh S) : S.1 33 = (0, 64) := h.1 33 _ rfl
theorem sn33 (h : Sh S) : 33 < S.2.2 := Nat.lt_of_lt_of_le (Nat.le_of_ble_eq_true rfl) h.2.2
theorem sk34 (h : Sh S) : S.1 34 = (0, 16) := h.1 34 _ rfl
theorem sn34 (h : Sh S) : 34 < S.2.2 := Nat.lt_of_lt_of_le (Nat.le_of_ble_eq_true rfl) h.2.2
theorem sk35 (h : Sh S) : S.1 35 = (0, 8) := h.1 35 _ rfl
theorem sn35 (h : Sh S) : 35 < S.2.2 := Nat.lt_of_lt_of_le (Nat.le_of_ble_eq_true rfl) h.2.2
theorem sk36 (h : Sh S) : S.1 36 = (13, 0) := h.1 36 _ rfl
theorem sn36 (h : Sh S) : 36 < S.2.2 := Nat.lt_of_lt_of_le (Nat.le_of_ble_eq_true rfl) h.2.2
theorem sr36_0 (h : Sh S) : S.2.1 36 0 = some 37 := h.2.1 36 0 _ rfl
theorem sr36_1 (h : Sh S) : S.2.1 36 1 = some 38 := h.2.1 36 1 _ rfl
theorem sk37 (h : Sh S) : S.1 37 = (0, 9) := h.1 37 _ rfl
theorem sn37 (h : Sh S) : 37 < S.2.2 := Nat.lt_of_lt_of_le (Nat.le_of_ble_eq_true rfl) h.2.2
theorem sk38 (h : Sh S) : S.1 38 = (0, 9) := h.1 38 _ rfl
theorem sn38 (h : Sh S) : 38 < S.2.2 := Nat.lt_of_lt_of_le (Nat.le_of_ble_eq_true rfl) h.2.2
theorem sk39 (h : Sh S) : S.1 39 = (13, 0) := h.1 39 _ rfl
theorem sn39 (h : Sh S) : 39 < S.2.2 := Nat.lt_of_lt_of_le (Nat.le_of_ble_eq_true rfl) h.2.2
theorem sr39_0 (h : Sh S) : S.2.1 39 0 = some 40 := h.2.1 39 0 _ rfl
theorem sr39_1 (h : Sh S) : S.2.1 39 1 = some 41 := h.2.1 39 1 _ rfl
theorem sk40 (h : Sh S) : S.1 40 = (0, 9) := h.1 40 _ rfl
theorem sn40 (h : Sh S) : 40 < S.2.2 := Nat.lt_of_lt_of_le (Nat.le_of_ble_eq_true rfl) h.2.2
theorem sk41 (h : Sh S) : S.1 41 = (0, 9) := h.1 41 _ rfl
theorem sn41 (h : Sh S) : 41 < S.2.2 := Nat.lt_of_lt_of_le (Nat.le_of_ble_eq_true rfl) h.2.2
theorem sk42 (h : Sh S) : S.1 42 = (7, 0) := h.1 42 _ rfl
theorem sn42 (h : Sh S) : 42 < S.2.2 := Nat.lt_of_lt_of_le (Nat.le_of_ble_eq_true rfl) h.2.2
theorem sr42_0 (h : Sh S) : S.2.1 42 0 = some 2 := h.2.1 42 0 _ rfl
theorem sr42_1 (h : Sh S) : S.2.1 42 1 = some 30 := h.2.1 42 1 _ rfl
theorem sr42_2 (h : Sh S) : S.2.1 42 2 = some 36 := h.2.1 42 2 _ rfl
theorem sk43 (h : Sh S) : S.1 43 = (8, 0) := h.1 43 _ rfl
theorem sn43 (h : Sh S) : 43 < S.2.2 := Nat.lt_of_lt_of_le (Nat.le_of_ble_eq_true rfl) h.2.2
theorem sr43_3 (h : Sh S) : S.2.1 43 3 = some 44 := h.2.1 43 3 _ rfl
theorem sr43_5 (h : Sh S) : S.2.1 43 5 = some 47 := h.2.1 43 5 _ rfl
theorem sr43_6 (h : Sh S) : S.2.1 43 6 = some 48 := h.2.1 43 6 _ rfl
theorem sr43_7 (h : Sh S) : S.2.1 43 7 = some 49 := h.2.1 43 7 _ rfl
theorem sr43_0 (h : Sh S) : S.2.1 43 0 = some 2 := h.2.1 43 0 _ rfl
theorem sr43_1 (h : Sh S) : S.2.1 43 1 = some 42 := h.2.1 43 1 _ rfl
theorem sr43_2 (h : Sh S) : S.2.1 43 2 = some 36 := h.2.1 43 2 _ rfl
theorem sr43_4 (h : Sh S) : S.2.1 43 4 = some 50 := h.2.1 43 4 _ rfl
theorem sk44 (h : Sh S) : S.1 44 = (13, 0) := h.1 44 _ rfl
theorem sn44 (h : Sh S) : 44 < S.2.2 := Nat.lt_of_lt_of_le (Nat.le_of_ble_eq_true rfl) h.2.2
theorem sr44_0 (h : Sh S) : S.2.1 44 0 = some 45 := h.2.1 44 0 _ rfl
theorem sr44_1 (h : Sh S) : S.2.1 44 1 = some 46 := h.2.1 44 1 _ rfl
theorem sk45 (h : Sh S) : S.1 45 = (0, 9) := h.1 45 _ rfl
theorem sn45 (h : Sh S) : 45 < S.2.2 := Nat.lt_of_lt_of_le (Nat.le_of_ble_eq_true rfl) h.2.2
theorem sk46 (h : Sh S) : S.1 46 = (0, 9) := h.1 46 _ rfl
theorem sn46 (h : Sh S) : 46 < S.2.2 := Nat.lt_of_lt_of_le (Nat.le_of_ble_eq_true rfl) h.2.2
theorem sk47 (h : Sh S) : S.1 47 = (0, 16) := h.1 47 _ rfl
theorem sn47 (h : Sh S) : 47 < S.2.2 := Nat.lt_of_lt_of_le (Nat.le_of_ble_eq_true rfl) h.2.2
theorem sk48 (h : Sh S) : S.1 48 = (0, 9) := h.1 48 _ rfl
theorem sn48 (h : Sh S) : 48 < S.2.2 := Nat.lt_of_lt_of_le (Nat.le_of_ble_eq_true rfl) h.2.2
theorem sk49 (h : Sh S) : S.1 49 = (0, 512) := h.1 49 _ rfl
theorem sn49 (h : Sh S) : 49 < S.2.2 := Nat.lt_of_lt_of_le (Nat.le_of_ble_eq_true rfl) h.2.2
theorem sk50 (h : Sh S) : S.1 50 = (7, 0) := h.1 50 _ rfl
theorem sn50 (h : Sh S) : 50 < S.2.2 := Nat.lt_of_lt_of_le (Nat.le_of_ble_eq_true rfl) h.2.2
theorem sr50_0 (h : Sh S) : S.2.1 50 0 = some 2 := h.2.1 50 0 _ rfl
theorem sr50_1 (h : Sh S) : S.2.1 50 1 = some 30 := h.2.1 50 1 _ rfl
theorem sr50_2 (h : Sh S) : S.2.1 50 2 = some 44 := h.2.1 50 2 _ rfl
theorem sk51 (h : Sh S) : S.1 51 = (5, 0) := h.1 51 _ rfl
theorem sn51 (h : Sh S) : 51 < S.2.2 := Nat.lt_of_lt_of_le (Nat.le_of_ble_eq_true rfl) h.2.2
theorem sr51_0 (h : Sh S) : S.2.1 51 0 = some 52 := h.2.1 51 0 _ rfl
theorem sk52 (h : Sh S) : S.1 52 = (4, 40) := h.1 52 _ rfl
theorem sn52 (h : Sh S) : 52 < S.2.2 := Nat.lt_of_lt_of_le (Nat.le_of_ble_eq_true rfl) h.2.2
theorem sk173 (h : Sh S) : S.1 173 = (12, 0) := h.1 173 _ rfl
theorem sn173 (h : Sh S) : 173 < S.2.2 := Nat.lt_of_lt_of_le (Nat.le_of_ble_eq_true rfl) h.2.2
theorem sr173_0 (h : Sh S) : S.2.1 173 0 = some 174 := h.2.1 173 0 _ rfl
theorem sr173_1 (h : Sh S) : S.2.1 173 1 = some 175 := h.2.1 173 1 _ rfl
theorem sr173_2 (h : Sh S) : S.2.1 173 2 = some 176 := h.2.1 173 2 _ rfl
theorem sr173_3 (h : Sh S) : S.2.1 173 3 = some 177 := h.2.1 173 3 _ rfl
theorem sr173_4 (h : Sh S) : S.2.1 173 4 = some 178 := h.2.1 173 4 _ rfl
theorem sk174 (h : Sh S) : S.1 174 = (0, 8) := h.1 174 _ rfl
theorem sn174 (h : Sh S) : 174 < S.2.2 := Nat.lt_of_lt_of_le (Nat.le_of_ble_eq_true rfl) h.2.2
theorem sk175 (h : Sh S) : S.1 175 = (0, 8) := h.1 175 _ rfl
theorem sn175 (h : Sh S) : 175 < S.2.2 := Nat.lt_of_lt_of_le (Nat.le_of_ble_eq_true rfl) h.2.2
theorem sk176 (h : Sh S) : S.1 176 = (0, 8) := h.1 176 _ rfl
theorem sn176 (h : Sh S) : 176 < S.2.2 := Nat.lt_of_lt_of_le (Nat.le_of_ble_eq_true rfl) h.2.2
theorem sk177 (h : Sh S) : S.1 177 = (0, 8) := h.1 177 _ rfl
theorem sn177 (h : Sh S) : 177 < S.2.2 := Nat.lt_of_lt_of_le (Nat.le_of_ble_eq_true rfl) h.2.2
theorem sk178 (h : Sh S) : S.1 178 = (2, 8) := h.1 178 _ rfl
theorem sn178 (h : Sh S) : 178 < S.2.2 := Nat.lt_of_lt_of_le (Nat.le_of_ble_eq_true rfl) h.2.2
theorem sk179 (h : Sh S) : S.1 179 = (13, 0) := h.1 179 _ rfl
theorem sn179 (h : Sh S) : 179 < S.2.2 := Nat.lt_of_lt_of_le (Nat.le_of_ble_eq_true rfl) h.2.2
theorem sr179_0 (h : Sh S) : S.2.1 179 0 = some 180 := h.2.1 179 0 _ rfl
theorem sr179_1 (h : Sh S) : S.2.1 179 1 = some 181 := h.2.1 179 1 _ rfl
theorem sk180 (h : Sh S) : S.1 180 = (0, 9) := h.1 180 _ rfl
theorem sn180 (h : Sh S) : 180 < S.2.2 := Nat.lt_of_lt_of_le (Nat.le_of_ble_eq_true rfl) h.2.2
theorem sk181 (h : Sh S) : S.1 181 = (0, 9) := h.1 181 _ rfl
theorem sn181 (h : Sh S) : 181 < S.2.2 := Nat.lt_of_lt_of_le (Nat.le_of_ble_eq_true rfl) h.2.2
theorem sk182 (h : Sh S) : S.1 182 = (5, 0) := h.1 182 _ rfl
theorem sn182 (h : Sh S) : 182 < S.2.2 := Nat.lt_of_lt_of_le (Nat.le_of_ble_eq_true rfl) h.2.2
theorem sr182_0 (h : Sh S) : S.2.1 182 0 = some 183 := h.2.1 182 0 _ rfl
theorem sk183 (h : Sh S) : S.1 183 = (4, 40) := h.1 183 _ rfl
theorem sn183 (h : Sh S) : 183 < S.2.2 := Nat.lt_of_lt_of_le (Nat.le_of_ble_eq_true rfl) h.2.2
theorem sk304 (h : Sh S) : S.1 304 = (12, 0) := h.1 304 _ rfl
theorem sn304 (h : Sh S) : 304 < S.2.2 := Nat.lt_of_lt_of_le (Nat.le_of_ble_eq_true rfl) h.2.2
theorem sr304_0 (h : Sh S) : S.2.1 304 0 = some 305 := h.2.1 304 0 _ rfl
theorem sr304_1 (h : Sh S) : S.2.1 304 1 = some 306 := h.2.1 304 1 _ rfl
theorem sr304_2 (h : Sh S) : S.2.1 304 2 = some 307 := h.2.1 304 2 _ rfl
theorem sr304_3 (h : Sh S) : S.2.1 304 3 = some 308 := h.2.1 304 3 _ rfl
theorem sr304_4 (h : Sh S) : S.2.1 304 4 = some 309 := h.2.1 304 4 _ rfl
theorem sk305 (h : Sh S) : S.1 305 = (0, 8) := h.1 305 _ rfl
theorem sn305 (h : Sh S) : 305 < S.2.2 := Nat.lt_of_lt_of_le (Nat.le_of_ble_eq_true rfl) h.2.2
theorem sk306 (h : Sh S) : S.1 306 = (0, 8) := h.1 306 _ rfl
theorem sn306 (h : Sh S) : 306 < S.2.2 := Nat.lt_of_lt_of_le (Nat.le_of_ble_eq_true rfl) h.2.2
theorem sk307 (h : Sh S) : S.1 307 = (0, 8) := h.1 307 _ rfl
theorem sn307 (h : Sh S) : 307 < S.2.2 := Nat.lt_of_lt_of_le (Nat.le_of_ble_eq_true rfl) h.2.2
theorem sk308 (h : Sh S) : S.1 308 = (0, 8) := h.1 308 _ rfl
theorem sn308 (h : Sh S) : 308 < S.2.2 := Nat.lt_of_lt_of_le (Nat.le_of_ble_eq_true rfl) h.2.2
theorem sk309 (h : Sh S) : S.1 309 = (2, 8) := h.1 309 _ rfl
theorem sn309 (h : Sh S) : 309 < S.2.2 := Nat.lt_of_lt_of_le (Nat.le_of_ble_eq_true rfl) h.2.2
theorem sk310 (h : Sh S) : S.1 310 = (16, 0) := h.1 310 _ rfl
theorem sn310 (h : Sh S) : 310 < S.2.2 := Nat.lt_of_lt_of_le (Nat.le_of_ble_eq_true rfl) h.2.2
theorem sr310_1 (h : Sh S) : S.2.1 310 1 = some 311 := h.2.1 310 1 _ rfl
theorem sr310_5 (h : Sh S) : S.2.1 310 5 = some 312 := h.2.1 310 5 _ rfl
theorem sr310_19 (h : Sh S) : S.2.1 310 19 = some 313 := h.2.1 310 19 _ rfl
theorem sr310_20 (h : Sh S) : S.2.1 310 20 = some 314 := h.2.1 310 20 _ rfl
theorem sr310_21 (h : Sh S) : S.2.1 310 21 = some 315 := h.2.1 310 21 _ rfl
theorem sr310_22 (h : Sh S) : S.2.1 310 22 = some 316 := h.2.1 310 22 _ rfl
theorem sr310_23 (h : Sh S) : S.2.1 310 23 = some 317 := h.2.1 310 23 _ rfl
theorem sr310_24 (h : Sh S) : S.2.1 310 24 = some 318 := h.2.1 310 24 _ rfl
theorem sr310_26 (h : Sh S) : S.2.1 310 26 = some 319 := h.2.1 310 26 _ rfl
theorem sr310_27 (h : Sh S) : S.2.1 310 27 = some 320 := h.2.1 310 27 _ rfl
theorem sr310_28 (h : Sh S) : S.2.1 310 28 = some 321 := h.2.1 310 28 _ rfl
theorem sr310_29 (h : Sh S) : S.2.1 310 29 = some 322 := h.2.1 310 29 _ rfl
theorem sr310_30 (h : Sh S) : S.2.1 310 30 = some 323 := h.2.1 310 30 _ rfl
theorem sr310_31 (h : Sh S) : S.2.1 310 31 = some 324 := h.2.1 310 31 _ rfl
theorem sr310_37 (h : Sh S) : S.2.1 310 37 = some 325 := h.2.1 310 37 _ rfl
theorem sr310_38 (h : Sh S) : S.2.1 310 38 = some 326 := h.2.1 310 38 _ rfl
theorem sr310_39 (h : Sh S) : S.2.1 310 39 = some 327 := h.2.1 310 39 _ rfl
theorem sr310_40 (h : Sh S) : S.2.1 310 40 = some 328 := h.2.1 310 40 _ rfl
theorem sr310_41 (h : Sh S) : S.2.1 310 41 = some 329 := h.2.1 310 41 _ rfl
theorem sr310_42 (h : Sh S) : S.2.1 310 42 = some 330 := h.2.1 310 42 _ rfl
theorem sr310_43 (h : Sh S) : S.2.1 310 43 = some 331 := h.2.1 310 43 _ rfl
theorem sr310_44 (h : Sh S) : S.2.1 310 44 = some 332 := h.2.1 310 44 _ rfl
theorem sr310_46 (h : Sh S) : S.2.1 310 46 = some 333 := h.2.1 310 46 _ rfl
theorem sr310_51 (h : Sh S) : S.2.1 310 51 = some 334 := h.2.1 310 51 _ rfl
theorem sr310_52 (h : Sh S) : S.2.1 310 52 = some 335 := h.2.1 310 52 _ rfl
theorem sr310_53 (h : Sh S) : S.2.1 310 53 = some 336 := h.2.1 310 53 _ rfl
theorem sk311 (h : Sh S) : S.1 311 = (0, 700) := h.1 311 _ rfl
theorem sn311 (h : Sh S) : 311 < S.2.2 := Nat.lt_of_lt_of_le (Nat.le_of_ble_eq_true rfl) h.2.2
theorem sk312 (h : Sh S) : S.1 312 = (0, 3) := h.1 312 _ rfl
theorem sn312 (h : Sh S) : 312 < S.2.2 := Nat.lt_of_lt_of_le (Nat.le_of_ble_eq_true rfl) h.2.2
theorem sk313 (h : Sh S) : S.1 313 = (0, 80) := h.1 313 _ rfl
theorem sn313 (h : Sh S) : 313 < S.2.2 := Nat.lt_of_lt_of_le (Nat.le_of_ble_eq_true rfl) h.2.2
theorem sk314 (h : Sh S) : S.1 314 = (0, 80) := h.1 314 _ rfl
theorem sn314 (h : Sh S) : 314 < S.2.2 := Nat.lt_of_lt_of_le (Nat.le_of_ble_eq_true rfl) h.2.2
theorem sk315 (h : Sh S) : S.1 315 = (0, 63) := h.1 315 _ rfl
theorem sn315 (h : Sh S) : 315 < S.2.2 := Nat.lt_of_lt_of_le (Nat.le_of_ble_eq_true rfl) h.2.2
theorem sk316 (h : Sh S) : S.1 316 = (0, 63) := h.1 316 _ rfl
theorem sn316 (h : Sh S) : 316 < S.2.2 := Nat.lt_of_lt_of_le (Nat.le_of_ble_eq_true rfl) h.2.2
theorem sk317 (h : Sh S) : S.1 317 = (0, 164) := h.1 317 _ rfl
theorem sn317 (h : Sh S) : 317 < S.2.2 := Nat.lt_of_lt_of_le (Nat.le_of_ble_eq_true rfl) h.2.2
theorem sk318 (h : Sh S) : S.1 318 = (0, 3280) := h.1 318 _ rfl
theorem sn318 (h : Sh S) : 318 < S.2.2 := Nat.lt_of_lt_of_le (Nat.le_of_ble_eq_true rfl) h.2.2
theorem sk319 (h : Sh S) : S.1 319 = (2, 16) := h.1 319 _ rfl
theorem sn319 (h : Sh S) : 319 < S.2.2 := Nat.lt_of_lt_of_le (Nat.le_of_ble_eq_true rfl) h.2.2
theorem sk320 (h : Sh S) : S.1 320 = (0, 16) := h.1 320 _ rfl
theorem sn320 (h : Sh S) : 320 < S.2.2 := Nat.lt_of_lt_of_le (Nat.le_of_ble_eq_true rfl) h.2.2
theorem sk321 (h : Sh S) : S.1 321 = (0, 8) := h.1 321 _ rfl
theorem sn321 (h : Sh S) : 321 < S.2.2 := Nat.lt_of_lt_of_le (Nat.le_of_ble_eq_true rfl) h.2.2
theorem sk322 (h : Sh S) : S.1 322 = (0, 7) := h.1 322 _ rfl
theorem sn322 (h : Sh S) : 322 < S.2.2 := Nat.lt_of_lt_of_le (Nat.le_of_ble_eq_true rfl) h.2.2
theorem sk323 (h : Sh S) : S.1 323 = (0, 2048) := h.1 323 _ rfl
theorem sn323 (h : Sh S) : 323 < S.2.2 := Nat.lt_of_lt_of_le (Nat.le_of_ble_eq_true rfl) h.2.2
theorem sk324 (h : Sh S) : S.1 324 = (0, 2048) := h.1 324 _ rfl
theorem sn324 (h : Sh S) : 324 < S.2.2 := Nat.lt_of_lt_of_le (Nat.le_of_ble_eq_true rfl) h.2.2
theorem sk325 (h : Sh S) : S.1 325 = (0, 9) := h.1 325 _ rfl
theorem sn325 (h : Sh S) : 325 < S.2.2 := Nat.lt_of_lt_of_le (Nat.le_of_ble_eq_true rfl) h.2.2
theorem sk326 (h : Sh S) : S.1 326 = (0, 63) := h.1 326 _ rfl
theorem sn326 (h : Sh S) : 326 < S.2.2 := Nat.lt_of_lt_of_le (Nat.le_of_ble_eq_true rfl) h.2.2
theorem sk327 (h : Sh S) : S.1 327 = (0, 9) := h.1 327 _ rfl
theorem sn327 (h : Sh S) : 327 < S.2.2 := Nat.lt_of_lt_of_le (Nat.le_of_ble_eq_true rfl) h.2.2
theorem sk328 (h : Sh S) : S.1 328 = (2, 512) := h.1 328 _ rfl
theorem sn328 (h : Sh S) : 328 < S.2.2 := Nat.lt_of_lt_of_le (Nat.le_of_ble_eq_true rfl) h.2.2
theorem sk329 (h : Sh S) : S.1 329 = (0, 16) := h.1 329 _ rfl
theorem sn329 (h : Sh S) : 329 < S.2.2 := Nat.lt_of_lt_of_le (Nat.le_of_ble_eq_true rfl) h.2.2
theorem sk330 (h : Sh S) : S.1 330 = (0, 16) := h.1 330 _ rfl
theorem sn330 (h : Sh S) : 330 < S.2.2 := Nat.lt_of_lt_of_le (Nat.le_of_ble_eq_true rfl) h.2.2
theorem sk331 (h : Sh S) : S.1 331 = (0, 8) := h.1 331 _ rfl
theorem sn331 (h : Sh S) : 331 < S.2.2 := Nat.lt_of_lt_of_le (Nat.le_of_ble_eq_true rfl) h.2.2
theorem sk332 (h : Sh S) : S.1 332 = (0, 8) := h.1 332 _ rfl
theorem sn332 (h : Sh S) : 332 < S.2.2 := Nat.lt_of_lt_of_le (Nat.le_of_ble_eq_true rfl) h.2.2
theorem sk333 (h : Sh S) : S.1 333 = (0, 40) := h.1 333 _ rfl
theorem sn333 (h : Sh S) : 333 < S.2.2 := Nat.lt_of_lt_of_le (Nat.le_of_ble_eq_true rfl) h.2.2
theorem sk334 (h : Sh S) : S.1 334 = (0, 82) := h.1 334 _ rfl
theorem sn334 (h : Sh S) : 334 < S.2.2 := Nat.lt_of_lt_of_le (Nat.le_of_ble_eq_true rfl) h.2.2
theorem sk335 (h : Sh S) : S.1 335 = (0, 3280) := h.1 335 _ rfl
theorem sn335 (h : Sh S) : 335 < S.2.2 := Nat.lt_of_lt_of_le (Nat.le_of_ble_eq_true rfl) h.2.2
theorem sk336 (h : Sh S) : S.1 336 = (0, 40) := h.1 336 _ rfl
theorem sn336 (h : Sh S) : 336 < S.2.2 := Nat.lt_of_lt_of_le (Nat.le_of_ble_eq_true rfl) h.2.2
theorem sk337 (h : Sh S) : S.1 337 = (3, 1) := h.1 337 _ rfl
theorem sn337 (h : Sh S) : 337 < S.2.2 := Nat.lt_of_lt_of_le (Nat.le_of_ble_eq_true rfl) h.2.2
def IsSt (S : gS) (u : Nat) : Prop := S.1 u = (13, 0) ∧ u + 2 < S.2.2 ∧ S.1 (u + 1) = (0, 9) ∧ S.1 (u + 2) = (0, 9) ∧ S.2.1 u 0 = some (u + 1) ∧ S.2.1 u 1 = some (u + 2)
def IsLe (S : gS) (t u : Nat) : Prop := (S.1 t = (7, 0) ∧ t < S.2.2 ∧ S.2.1 t 0 = some 2 ∧ S.2.1 t 1 = some 30 ∧ S.2.1 t 2 = some u) ∧ IsSt S u
theorem IsSt.n0 {u : Nat} (h : IsSt S u) : u < S.2.2 := by have := h.2.1; omega
theorem IsSt.n1 {u : Nat} (h : IsSt S u) : u + 1 < S.2.2 := by have := h.2.1; omega
theorem IsSt.n2 {u : Nat} (h : IsSt S u) : u + 2 < S.2.2 := h.2.1
theorem st36 (h : Sh S) : IsSt S 36 := ⟨sk36 h, sn38 h, sk37 h, sk38 h, sr36_0 h, sr36_1 h⟩
theorem st39 (h : Sh S) : IsSt S 39 := ⟨sk39 h, sn41 h, sk40 h, sk41 h, sr39_0 h, sr39_1 h⟩
theorem st44 (h : Sh S) : IsSt S 44 := ⟨sk44 h, sn46 h, sk45 h, sk46 h, sr44_0 h, sr44_1 h⟩
theorem st179 (h : Sh S) : IsSt S 179 := ⟨sk179 h, sn181 h, sk180 h, sk181 h, sr179_0 h, sr179_1 h⟩
theorem le42 (h : Sh S) : IsLe S 42 36 := ⟨⟨sk42 h, sn42 h, sr42_0 h, sr42_1 h, sr42_2 h⟩, st36 h⟩
theorem le50 (h : Sh S) : IsLe S 50 44 := ⟨⟨sk50 h, sn50 h, sr50_0 h, sr50_1 h, sr50_2 h⟩, st44 h⟩
theorem act52_d : ∀ i, i < 40 → (((shR[52]?).bind fun l => l[i]?) = some (some (53 + 3 * i)) ∧ shK[53 + 3 * i]? = some (13, 0) ∧ shK[53 + 3 * i + 1]? = some (0, 9) ∧ shK[53 + 3 * i + 2]? = some (0, 9) ∧ ((shR[53 + 3 * i]?).bind fun l => l[0]?) = some (some (53 + 3 * i + 1)) ∧ ((shR[53 + 3 * i]?).bind fun l => l[1]?) = some (some (53 + 3 * i + 2))) := by decide +kernel
theorem act52 (h : Sh S) {i : Nat} (hi : i < 40) : S.2.1 52 i = some (53 + 3 * i) := h.2.1 _ _ _ (act52_d i hi).1
theorem ast52 (h : Sh S) {i : Nat} (hi : i < 40) : IsSt S (53 + 3 * i) := by
  obtain ⟨-, h1, h2, h3, h4, h5⟩ := act52_d i hi
  exact ⟨h.1 _ _ h1, by have := h.2.2; omega, h.1 _ _ h2, h.1 _ _ h3, h.2.1 _ _ _ h4, h.2.1 _ _ _ h5⟩
theorem act183_d : ∀ i, i < 40 → (((shR[183]?).bind fun l => l[i]?) = some (some (184 + 3 * i)) ∧ shK[184 + 3 * i]? = some (13, 0) ∧ shK[184 + 3 * i + 1]? = some (0, 9) ∧ shK[184 + 3 * i + 2]? = some (0, 9) ∧ ((shR[184 + 3 * i]?).bind fun l => l[0]?) = some (some (184 + 3 * i + 1)) ∧ ((shR[184 + 3 * i]?).bind fun l => l[1]?) = some (some (184 + 3 * i + 2))) := by decide +kernel
theorem act183 (h : Sh S) {i : Nat} (hi : i < 40) : S.2.1 183 i = some (184 + 3 * i) := h.2.1 _ _ _ (act183_d i hi).1
theorem ast183 (h : Sh S) {i : Nat} (hi : i < 40) : IsSt S (184 + 3 * i) := by
  obtain ⟨-, h1, h2, h3, h4, h5⟩ := act183_d i hi
  exact ⟨h.1 _ _ h1, by have := h.2.2; omega, h.1 _ _ h2, h.1 _ _ h3, h.2.1 _ _ _ h4, h.2.1 _ _ _ h5⟩
end Shape
