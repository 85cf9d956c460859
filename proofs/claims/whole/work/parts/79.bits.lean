/-! how many bits: up to sixteen -/
def pc8 (n : Nat) : Nat := n % 2 + n / 2 % 2 + n / 4 % 2 + n / 8 % 2 + n / 16 % 2 + n / 32 % 2 + n / 64 % 2 + n / 128 % 2
def bB (a : Nat) : Nat := (a &&& 858993459) + (a / 4 &&& 858993459)
def bD (c : Nat) : Nat := (c &&& 252645135) + (c &&& 252645135) / 256
def bF (x : Nat) : Nat := bD (bB (x - (x / 2 &&& 1431655765)) + bB (x - (x / 2 &&& 1431655765)) / 16)
def bG (x : Nat) : Nat := (bF x + bF x / 65536) &&& 63
theorem bG_0 : ∀ a, a < 64 → ∀ b, b < 256 → bG (256 * a + b) = pc8 a + pc8 b := by decide +kernel
theorem bG_1 : ∀ a, a < 64 → ∀ b, b < 256 → bG (256 * (64 + a) + b) = pc8 (64 + a) + pc8 b := by decide +kernel
theorem bG_2 : ∀ a, a < 64 → ∀ b, b < 256 → bG (256 * (128 + a) + b) = pc8 (128 + a) + pc8 b := by decide +kernel
theorem bG_3 : ∀ a, a < 64 → ∀ b, b < 256 → bG (256 * (192 + a) + b) = pc8 (192 + a) + pc8 b := by decide +kernel
theorem bG_eq {a b : Nat} (ha : a < 256) (hb : b < 256) : bG (256 * a + b) = pc8 a + pc8 b := by
  by_cases h1 : a < 64
  · exact bG_0 a h1 b hb
  · by_cases h2 : a < 128
    · have := bG_1 (a - 64) (by omega) b hb
      rwa [show 64 + (a - 64) = a by omega] at this
    · by_cases h3 : a < 192
      · have := bG_2 (a - 128) (by omega) b hb
        rwa [show 128 + (a - 128) = a by omega] at this
      · have := bG_3 (a - 192) (by omega) b hb
        rwa [show 192 + (a - 192) = a by omega] at this
theorem us_n {n k : Nat} (hn : n < 2 ^ 32) (s : Int32) (hs : ((s.toUInt32 &&& Int32.toUInt32 31).toBitVec % 32).toNat = k) : ushr (nI n) s = nI (n / 2 ^ k) := pk_ushrN hn s k hs
theorem c_bG {x : Nat} {I : gI} (h : x < 65536) : mJ6_bitCount_0f7a4 (nI x) I = some (nI (bG x)) := by
  have a1 : x / 2 &&& 1431655765 ≤ x / 2 := Nat.and_le_left
  obtain ⟨A, hA⟩ : ∃ A, A = x - (x / 2 &&& 1431655765) := ⟨_, rfl⟩
  have b1 : A &&& 858993459 ≤ A := Nat.and_le_left
  have b2 : A / 4 &&& 858993459 ≤ A / 4 := Nat.and_le_left
  obtain ⟨B, hB⟩ : ∃ B, B = (A &&& 858993459) + (A / 4 &&& 858993459) := ⟨_, rfl⟩
  obtain ⟨C, hC⟩ : ∃ C, C = B + B / 16 := ⟨_, rfl⟩
  have c1 : C &&& 252645135 ≤ C := Nat.and_le_left
  obtain ⟨D, hD⟩ : ∃ D, D = (C &&& 252645135) + (C &&& 252645135) / 256 := ⟨_, rfl⟩
  have e : bG x = (D + D / 65536) &&& 63 := by rw [hD, hC, hB, hA]; rfl
  have h32 : (2 : Nat) ^ 32 = 4294967296 := rfl
  unfold mJ6_bitCount_0f7a4
  rw [us_n (k := 1) (by omega) 1 (by decide), show x / 2 ^ 1 = x / 2 from rfl, show (1431655765 : Int32) = nI 1431655765 from rfl, nx_and, nI_sub (by omega), ← hA, us_n (k := 2) (by omega) 2 (by decide), show A / 2 ^ 2 = A / 4 from rfl, show (858993459 : Int32) = nI 858993459 from rfl, nx_and, nx_and, nm_n, nI_add, ← hB, us_n (k := 4) (by omega) 4 (by decide), show B / 2 ^ 4 = B / 16 from rfl, nm_n, nm_n, nI_add, ← hC, show (252645135 : Int32) = nI 252645135 from rfl, nx_and, us_n (k := 8) (by omega) 8 (by decide), show (C &&& 252645135) / 2 ^ 8 = (C &&& 252645135) / 256 from rfl, nI_add, ← hD, us_n (k := 16) (by omega) 16 (by decide), show D / 2 ^ 16 = D / 65536 from rfl, nm_n, nm_n, nI_add, show (63 : Int32) = nI 63 from rfl, nx_and, e]
theorem tb_dm (s i : Nat) : (if s.testBit i = true then (1 : Int) else 0) = ((s / 2 ^ i % 2 : Nat) : Int) := by
  rw [Nat.testBit_eq_decide_div_mod_eq]
  rcases Nat.mod_two_eq_zero_or_one (s / 2 ^ i) with h | h <;> simp [h]
theorem pcn_8 (s : Nat) : pcn s = pc8 (s / 256 % 256) + pc8 (s % 256) := by
  have e : (pcn s : Int) = ((pc8 (s / 256 % 256) + pc8 (s % 256) : Nat) : Int) := by
    unfold pcn
    rw [pcn_sm]
    simp only [sm, tb_dm, Nat.reducePow]
    unfold pc8
    omega
  omega
theorem c_bitsW {s : Nat} {I : gI} (h : s < 65536) : mJ6_bitCount_0f7a4 (nI s) I = some (nI (pcn s)) := by
  have := bG_eq (a := s / 256) (b := s % 256) (by omega) (by omega)
  rw [show 256 * (s / 256) + s % 256 = s by omega] at this
  rw [pcn_8, show s / 256 % 256 = s / 256 by omega, c_bG h, this]
theorem pcn_pow : ∀ l, l < 16 → pcn (2 ^ l) = 1 := by decide
theorem wb_nat : ∀ (p : List Nat), p.Nodup → (∀ l ∈ p, l < 16) → ∃ s, s < 65536 ∧ wb p = nI s ∧ pcn s = p.length ∧ ∀ i, s.testBit i = decide (i ∈ p)
  | [], _, _ => ⟨0, by decide, rfl, by decide, fun i => by simp⟩
  | l :: p, hd, h => by
    obtain ⟨h1, h2⟩ := List.nodup_cons.mp hd
    have hl := h l List.mem_cons_self
    obtain ⟨s, hs, e, hc, hb⟩ := wb_nat p h2 (fun x hx => h x (List.mem_cons_of_mem _ hx))
    have hlt : s ||| 2 ^ l < 2 ^ 16 := Nat.or_lt_two_pow hs (Nat.pow_lt_pow_right (by decide) hl)
    refine ⟨s ||| 2 ^ l, hlt, by rw [wb, e, sh1_n l (by omega), nx_or], ?_, fun i => ?_⟩
    · rw [pcn_sum (a := s ||| 2 ^ l) (b := s) (d := 2 ^ l) (fun i _ => ?_), hc, pcn_pow l hl, List.length_cons]
      rw [Nat.testBit_or, Bool.or_eq_true]
      refine ⟨Iff.rfl, fun ⟨ha, hb'⟩ => ?_⟩
      rw [Nat.testBit_two_pow] at hb'
      rw [hb] at ha
      simp at ha hb'
      exact h1 (hb' ▸ ha)
    · rw [Nat.testBit_or, hb, Nat.testBit_two_pow]
      by_cases h3 : i = l
      · subst h3; simp
      · have : ¬ l = i := fun e => h3 e.symm
        simp [h3, this]
