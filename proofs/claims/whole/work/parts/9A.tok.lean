/-! the text: bytes, runs of them; how both read one on -/
def blk (x : Nat) : Bool := decide (x = 32) || decide (x = 10)
def ltr (x : Nat) : Bool := decide (97 ≤ x) && decide (x ≤ 122)
def dgt (x : Nat) : Bool := decide (48 ≤ x) && decide (x ≤ 57)
/-- a byte as the class keeps it -/
def sb (x : Nat) : Int32 := (nI x).toInt8.toInt32
theorem sb_ltr : ∀ x, x < 256 → ((¬ sb x < 97 ∧ ¬ (122 : Int32) < sb x) ↔ ltr x = true) := by decide +kernel
theorem sb_dgt : ∀ x, x < 256 → ((¬ sb x < 48 ∧ ¬ (57 : Int32) < sb x) ↔ dgt x = true) := by decide +kernel
theorem sb_blk : ∀ x, x < 256 → ((sb x = 32 ∨ sb x = 10) ↔ blk x = true) := by decide +kernel
theorem sb_59 : ∀ x, x < 256 → (sb x = 59 ↔ x = 59) := by decide +kernel
theorem sb_dv : ∀ x, x < 256 → dgt x = true → sb x = nI x := by decide +kernel
theorem nb_ltr : ∀ x, x < 256 → ((¬ nI x < 97 ∧ ¬ (122 : Int32) < nI x) ↔ ltr x = true) := by decide +kernel
theorem nb_dgt : ∀ x, x < 256 → ((¬ nI x < 48 ∧ ¬ (57 : Int32) < nI x) ↔ dgt x = true) := by decide +kernel
theorem nb_blk : ∀ x, x < 256 → ((nI x = 32 ∨ nI x = 10) ↔ blk x = true) := by decide +kernel
theorem nb_59 : ∀ x, x < 256 → (nI x = 59 ↔ x = 59) := by decide +kernel
section Tok
variable {b : Nat → Nat} {n N : Nat} {I : gI} {p : Nat → Bool}
/-- where a run ends -/
def rnF (p : Nat → Bool) (b : Nat → Nat) (n : Nat) : Nat → Nat → Nat
  | 0, i => i
  | m + 1, i => if i < n ∧ p (b i) = true then rnF p b n m (i + 1) else i
def rn (p : Nat → Bool) (b : Nat → Nat) (n i : Nat) : Nat := rnF p b n (n - i) i
theorem rn_on {i : Nat} (h1 : i < n) (h2 : p (b i) = true) : rn p b n i = rn p b n (i + 1) := by
  unfold rn
  obtain ⟨m, hm⟩ : ∃ m, n - i = m + 1 := ⟨n - i - 1, by omega⟩
  rw [hm, rnF, if_pos ⟨h1, h2⟩, show n - (i + 1) = m by omega]
theorem rn_end {i : Nat} (h : ¬ (i < n ∧ p (b i) = true)) : rn p b n i = i := by
  unfold rn
  cases h1 : n - i with
  | zero => rfl
  | succ m => rw [rnF, if_neg h]
theorem rn_ge : ∀ (m i : Nat), n - i ≤ m → i ≤ rn p b n i
  | 0, i, h => by rw [rn_end (by omega)]; exact Nat.le_refl _
  | m + 1, i, h => by
    by_cases hc : i < n ∧ p (b i) = true
    · rw [rn_on hc.1 hc.2]
      have := rn_ge m (i + 1) (by omega)
      omega
    · rw [rn_end hc]; exact Nat.le_refl _
theorem rn_le : ∀ (m i : Nat), n - i ≤ m → i ≤ n → rn p b n i ≤ n
  | 0, i, h, hi => by rw [rn_end (by omega)]; exact hi
  | m + 1, i, h, hi => by
    by_cases hc : i < n ∧ p (b i) = true
    · rw [rn_on hc.1 hc.2]
      exact rn_le m (i + 1) (by omega) (by omega)
    · rw [rn_end hc]; exact hi
/-- the text in both -/
def TxC (b : Nat → Nat) (n : Nat) (I : gI) : Prop := n ≤ 700 ∧ I 28 1 = nI n ∧ ∀ j, j < n → b j < 256 ∧ I 1 j = sb (b j)
def TxM (b : Nat → Nat) (n : Nat) (I : gI) : Prop := n ≤ 700 ∧ I 310 6 = nI n ∧ ∀ j, j < n → b j < 256 ∧ I 311 j = nI (b j)
theorem TxC.u {j : Nat} {v : Int32} (h : TxC b n I) (hj : j ≠ 1) : TxC b n (upd2 I 28 j v) := ⟨h.1, by rw [u2_ne (by omega)]; exact h.2.1, fun i hi => by rw [u2_c (by decide)]; exact h.2.2 i hi⟩
theorem TxM.u {j : Nat} {v : Int32} (h : TxM b n I) (hj : j ≠ 6) : TxM b n (upd2 I 310 j v) := ⟨h.1, by rw [u2_ne (by omega)]; exact h.2.1, fun i hi => by rw [u2_c (by decide)]; exact h.2.2 i hi⟩
theorem c_nx8 : ∀ (m i fu : Nat) (I : gI), n - i ≤ m → m < fu → i ≤ n → TxC b n I → I 28 3 = nI i → mX5_next_8 fu I = some (upd2 I 28 3 (nI (rn blk b n i))) := by
  intro m
  induction m with
  | zero =>
    intro i fu I h1 h2 h3 hT h28
    obtain ⟨k, rfl⟩ : ∃ k, fu = k + 1 := ⟨fu - 1, by omega⟩
    have hn7 := hT.1
    rw [mX5_next_8, hT.2.1, h28, if_pos (nI_le (by omega) (by omega)), rn_end (by omega)]
    congr 1
    funext c j
    by_cases e : c = 28 ∧ j = 3
    · rw [e.1, e.2, u2_at, h28]
    · rw [u2_ne e]
  | succ m ih =>
    intro i fu I h1 h2 h3 hT h28
    obtain ⟨k, rfl⟩ : ∃ k, fu = k + 1 := ⟨fu - 1, by omega⟩
    have hn7 := hT.1
    have hsame : upd2 I 28 3 (nI i) = I := by
      funext c j
      by_cases e : c = 28 ∧ j = 3
      · rw [e.1, e.2, u2_at, h28]
      · rw [u2_ne e]
    by_cases hi : i < n
    · obtain ⟨b1, b2⟩ := hT.2.2 i hi
      have hb := sb_blk _ b1
      rw [mX5_next_8, hT.2.1, h28, if_neg (nI_ge hi (by omega)), ck_n (by omega) (by decide), nI_clamp (by omega), b2]
      by_cases hc : blk (b i) = true
      · have e1 : mX5_isBlank (sb (b i)) I = some 1 := by
          unfold mX5_isBlank
          rcases hb.mpr hc with h | h
          · rw [if_pos h]
          · by_cases h' : sb (b i) = 32
            · rw [if_pos h']
            · rw [if_neg h', if_pos h]
        rw [e1, ob_some, if_neg (by decide), nI_1, ih (i + 1) k (upd2 I 28 3 (nI (i + 1))) (by omega) (by omega) (by omega) (hT.u (by decide)) u2_at, rn_on hi hc]
        congr 1
        funext c j
        by_cases e : c = 28 ∧ j = 3
        · rw [e.1, e.2, u2_at, u2_at]
        · rw [u2_ne e, u2_ne e, u2_ne e]
      · have e1 : mX5_isBlank (sb (b i)) I = some 0 := by
          unfold mX5_isBlank
          rw [if_neg (fun h => hc (hb.mp (Or.inl h))), if_neg (fun h => hc (hb.mp (Or.inr h)))]
        rw [e1, ob_some, if_pos rfl, rn_end (fun h => hc h.2), hsame]
    · rw [mX5_next_8, hT.2.1, h28, if_pos (nI_le (by omega) (by omega)), rn_end (fun h => hi h.1), hsame]
theorem c_eor {lo hi : Int32} {p : Nat → Bool} (hp : ∀ x, x < 256 → ((¬ sb x < lo ∧ ¬ hi < sb x) ↔ p x = true)) : ∀ (m i fu : Nat) (I : gI), n - i ≤ m → m < fu → i ≤ n → TxC b n I → I 28 4 = nI i → mX5_endOfRow_0 lo hi fu I = some (upd2 I 28 4 (nI (rn p b n i))) := by
  intro m
  induction m with
  | zero =>
    intro i fu I h1 h2 h3 hT h28
    obtain ⟨k, rfl⟩ : ∃ k, fu = k + 1 := ⟨fu - 1, by omega⟩
    have hn7 := hT.1
    rw [mX5_endOfRow_0, hT.2.1, h28, if_pos (nI_le (by omega) (by omega)), rn_end (by omega)]
    congr 1
    funext c j
    by_cases e : c = 28 ∧ j = 4
    · rw [e.1, e.2, u2_at, h28]
    · rw [u2_ne e]
  | succ m ih =>
    intro i fu I h1 h2 h3 hT h28
    obtain ⟨k, rfl⟩ : ∃ k, fu = k + 1 := ⟨fu - 1, by omega⟩
    have hn7 := hT.1
    have hsame : upd2 I 28 4 (nI i) = I := by
      funext c j
      by_cases e : c = 28 ∧ j = 4
      · rw [e.1, e.2, u2_at, h28]
      · rw [u2_ne e]
    by_cases hi' : i < n
    · obtain ⟨b1, b2⟩ := hT.2.2 i hi'
      have hb := hp _ b1
      rw [mX5_endOfRow_0, hT.2.1, h28, if_neg (nI_ge hi' (by omega)), ck_n (by omega) (by decide), nI_clamp (by omega), b2]
      by_cases hc : p (b i) = true
      · obtain ⟨q1, q2⟩ := hb.mpr hc
        rw [if_neg q1, if_neg q2, nI_1, ih (i + 1) k (upd2 I 28 4 (nI (i + 1))) (by omega) (by omega) (by omega) (hT.u (by decide)) u2_at, rn_on hi' hc]
        congr 1
        funext c j
        by_cases e : c = 28 ∧ j = 4
        · rw [e.1, e.2, u2_at, u2_at]
        · rw [u2_ne e, u2_ne e, u2_ne e]
      · rw [rn_end (fun h => hc h.2), hsame]
        by_cases q1 : sb (b i) < lo
        · rw [if_pos q1]
        · by_cases q2 : hi < sb (b i)
          · rw [if_neg q1, if_pos q2]
          · exact absurd (hb.mp ⟨q1, q2⟩) hc
    · rw [mX5_endOfRow_0, hT.2.1, h28, if_pos (nI_le (by omega) (by omega)), rn_end (fun h => hi' h.1), hsame]
theorem m_byte {i : Nat} (hT : TxM b n I) (hi : i < n) : mX11_byteAt (nI i) I = some (nI (b i)) := by
  have hn7 := hT.1
  unfold mX11_byteAt
  rw [hT.2.1, if_neg (nI_ge hi (by omega)), ck_n (by omega) (by decide), nI_clamp (by omega), (hT.2.2 i hi).2]
theorem m_byte0 {i : Nat} (hT : TxM b n I) (hi : n ≤ i) (hi' : i < 1000) : mX11_byteAt (nI i) I = some 0 := by
  unfold mX11_byteAt
  rw [hT.2.1, if_pos (nI_le hi (by omega))]
theorem m_go0 {J : gJ} : ∀ (m i fu : Nat) (I : gI), n - i ≤ m → m < fu → i ≤ n → TxM b n I → I 310 7 = nI i → mX11_goes_0 J fu I = some (upd2 I 310 7 (nI (rn blk b n i))) := by
  intro m
  induction m with
  | zero =>
    intro i fu I h1 h2 h3 hT h28
    obtain ⟨k, rfl⟩ : ∃ k, fu = k + 1 := ⟨fu - 1, by omega⟩
    have hn7 := hT.1
    rw [mX11_goes_0, hT.2.1, h28, if_pos (nI_le (by omega) (by omega)), rn_end (by omega)]
    congr 1
    funext c j
    by_cases e : c = 310 ∧ j = 7
    · rw [e.1, e.2, u2_at, h28]
    · rw [u2_ne e]
  | succ m ih =>
    intro i fu I h1 h2 h3 hT h28
    obtain ⟨k, rfl⟩ : ∃ k, fu = k + 1 := ⟨fu - 1, by omega⟩
    have hn7 := hT.1
    have hsame : upd2 I 310 7 (nI i) = I := by
      funext c j
      by_cases e : c = 310 ∧ j = 7
      · rw [e.1, e.2, u2_at, h28]
      · rw [u2_ne e]
    by_cases hi : i < n
    · obtain ⟨b1, b2⟩ := hT.2.2 i hi
      have hb := nb_blk _ b1
      rw [mX11_goes_0, hT.2.1, h28, if_neg (nI_ge hi (by omega)), m_byte hT hi, ob_some]
      by_cases hc : blk (b i) = true
      · have hnx : mX11_goes_0 J k (upd2 I 310 7 (nI i + 1)) = some (upd2 I 310 7 (nI (rn blk b n i))) := by
          rw [nI_1, ih (i + 1) k (upd2 I 310 7 (nI (i + 1))) (by omega) (by omega) (by omega) (hT.u (by decide)) u2_at, rn_on hi hc]
          congr 1
          funext c j
          by_cases e : c = 310 ∧ j = 7
          · rw [e.1, e.2, u2_at, u2_at]
          · rw [u2_ne e, u2_ne e, u2_ne e]
        by_cases h' : nI (b i) = 32
        · rw [if_pos h', hnx]
        · rw [if_neg h', ob_some, if_pos ((hb.mpr hc).resolve_left h'), hnx]
      · rw [if_neg (fun h => hc (hb.mp (Or.inl h))), ob_some, if_neg (fun h => hc (hb.mp (Or.inr h))), rn_end (fun h => hc h.2), hsame]
    · rw [mX11_goes_0, hT.2.1, h28, if_pos (nI_le (by omega) (by omega)), rn_end (fun h => hi h.1), hsame]
end Tok
