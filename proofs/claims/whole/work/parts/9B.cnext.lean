/-! tokens; the class's next one -/
section CNext
variable {b : Nat → Nat} {n N : Nat} {I : gI}
/-- the value of some digits -/
def vl (b : Nat → Nat) (st : Nat) : Nat → Nat
  | 0 => 0
  | k + 1 => 10 * vl b st k + (b (st + k) - 48)
def p4 : Nat → Nat
  | 0 => 1
  | k + 1 => 10 * p4 k
theorem vl_lt {st : Nat} : ∀ {k : Nat}, (∀ j, j < k → dgt (b (st + j)) = true) → vl b st k < p4 k
  | 0, _ => Nat.one_pos
  | k + 1, h => by
    have ih := vl_lt (st := st) (k := k) (fun j hj => h j (by omega))
    have h1 := h k (by omega)
    unfold dgt at h1
    simp at h1
    rw [vl, p4]
    omega
/-- kind, first byte, end, value (of 4 digits at most) -/
abbrev Tk : Type := Nat × Nat × Nat × Nat
def tkAt (b : Nat → Nat) (n e : Nat) : Tk :=
  if n ≤ rn blk b n e then (0, rn blk b n e, rn blk b n e, 0)
  else if ltr (b (rn blk b n e)) = true then (1, rn blk b n e, rn ltr b n (rn blk b n e), 0)
  else if dgt (b (rn blk b n e)) = true then (2, rn blk b n e, rn dgt b n (rn blk b n e), vl b (rn blk b n e) (if rn dgt b n (rn blk b n e) - rn blk b n e ≤ 4 then rn dgt b n (rn blk b n e) - rn blk b n e else 4))
  else (if b (rn blk b n e) = 59 then 3 else 4, rn blk b n e, rn blk b n e + 1, 0)
/-- a run's bytes -/
theorem rn_mem {p : Nat → Bool} : ∀ (m i : Nat), n - i ≤ m → ∀ j, i ≤ j → j < rn p b n i → p (b j) = true
  | 0, i, h, j, h1, h2 => by rw [rn_end (by omega)] at h2; omega
  | m + 1, i, h, j, h1, h2 => by
    by_cases hc : i < n ∧ p (b i) = true
    · by_cases e : j = i
      · rw [e]; exact hc.2
      · rw [rn_on hc.1 hc.2] at h2
        exact rn_mem m (i + 1) (by omega) j (by omega) h2
    · rw [rn_end hc] at h2; omega
theorem c_val4 {st en : Nat} (hT : TxC b n I) (h4 : I 28 4 = nI en) (hen : en ≤ n) (hl : en - st ≤ 4) (hd : ∀ j, st ≤ j → j < en → dgt (b j) = true) : ∀ (m k fu : Nat), st + k + m = en → m < fu → mX5_valueOfRow_7 I fu (nI (vl b st k)) (nI (st + k)) = some (nI (vl b st (en - st))) := by
  have hn7 := hT.1
  intro m
  induction m with
  | zero =>
    intro k fu h1 h2
    obtain ⟨f, rfl⟩ : ∃ f, fu = f + 1 := ⟨fu - 1, by omega⟩
    rw [mX5_valueOfRow_7, h4, if_pos (nI_le (by omega) (by omega)), show en - st = k by omega]
  | succ m ih =>
    intro k fu h1 h2
    obtain ⟨f, rfl⟩ : ∃ f, fu = f + 1 := ⟨fu - 1, by omega⟩
    have hb := (hT.2.2 (st + k) (by omega)).1
    have hdg := hd (st + k) (by omega) (by omega)
    have hlt := vl_lt (b := b) (st := st) (k := k) (fun j hj => hd (st + j) (by omega) (by omega))
    have hp : p4 k ≤ 10000 := by
      have : k ≤ 4 := by omega
      exact (by decide : ∀ k, k ≤ 4 → p4 k ≤ 10000) k this
    have hdg' := hdg
    unfold dgt at hdg'
    simp at hdg'
    have e1 : nI (vl b st k) * 10 + nI (b (st + k)) - 48 = nI (vl b st (k + 1)) := by
      rw [show (10 : Int32) = nI 10 from rfl, nI_mul, nI_add, show (48 : Int32) = nI 48 from rfl, nI_sub (by omega), vl]
      congr 1
      omega
    have hv : vl b st (k + 1) < 1000000 := by rw [vl]; omega
    rw [mX5_valueOfRow_7, h4, if_neg (nI_ge (by omega) (by omega)), ck_n (by omega) (by decide), nI_clamp (by omega), (hT.2.2 (st + k) (by omega)).2, sb_dv _ hb hdg, e1, nm_n, if_pos (show nI (vl b st (k + 1)) < (1000000 : Int32) from nI_lt (b := 1000000) hv (by omega)), nI_1]
    exact ih (k + 1) f (by omega) (by omega)
theorem c_valX {en : Nat} (hT : TxC b n I) (h4 : I 28 4 = nI en) (hen : en ≤ n) : ∀ (m i fu : Nat) (v : Int32), i + m = en → m < fu → ∃ r, mX5_valueOfRow_7 I fu v (nI i) = some r := by
  have hn7 := hT.1
  intro m
  induction m with
  | zero =>
    intro i fu v h1 h2
    obtain ⟨f, rfl⟩ : ∃ f, fu = f + 1 := ⟨fu - 1, by omega⟩
    exact ⟨v, by rw [mX5_valueOfRow_7, h4, if_pos (nI_le (by omega) (by omega))]⟩
  | succ m ih =>
    intro i fu v h1 h2
    obtain ⟨f, rfl⟩ : ∃ f, fu = f + 1 := ⟨fu - 1, by omega⟩
    rw [mX5_valueOfRow_7, h4, if_neg (nI_ge (by omega) (by omega)), ck_n (by omega) (by decide), nm_n, nI_1]
    exact ih (i + 1) f _ (by omega) (by omega)
/-- the class shows a token, without a fault -/
def CT (n : Nat) (t : Tk) (I : gI) : Prop := I 28 2 = nI t.1 ∧ I 28 3 = nI t.2.1 ∧ I 28 4 = nI t.2.2.1 ∧ (t.1 = 2 → t.2.2.1 - t.2.1 ≤ 4 → I 28 5 = nI t.2.2.2) ∧ t.1 ≤ 4 ∧ t.2.1 ≤ t.2.2.1 ∧ t.2.2.1 ≤ n
end CNext
