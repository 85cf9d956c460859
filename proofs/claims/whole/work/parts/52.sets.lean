/-! sets of tunnels as numbers; sums over them -/
def mk9 (p : Nat → Bool) : Nat → Nat
  | 0 => 0
  | n + 1 => if p n then mk9 p n ||| 2 ^ n else mk9 p n
theorem mk9_tb {p : Nat → Bool} {i : Nat} : ∀ n, (mk9 p n).testBit i = (decide (i < n) && p i)
  | 0 => by simp [mk9]
  | n + 1 => by
    have ih := mk9_tb (p := p) (i := i) n
    rw [mk9]
    by_cases h : i = n
    · subst h
      cases hp : p i with
      | true => rw [if_pos rfl, Nat.testBit_or, Nat.testBit_two_pow_self]; simp
      | false => rw [if_neg (by decide), ih]; simp
    · have e : (decide (i < n + 1)) = decide (i < n) := by simp; omega
      rw [e, ← ih]
      split
      · rw [Nat.testBit_or, Nat.testBit_two_pow]; simp; intro h2; omega
      · rfl
theorem mk9_lt {p : Nat → Bool} : ∀ n, mk9 p n < 2 ^ n
  | 0 => by simp [mk9]
  | n + 1 => by
    have ih := mk9_lt (p := p) n
    have h2 : 2 ^ n < 2 ^ (n + 1) := Nat.pow_lt_pow_right (by decide) (by omega)
    rw [mk9]
    split
    · exact Nat.or_lt_two_pow (by omega) h2
    · omega
theorem nx_or (a b : Nat) : nI a ||| nI b = nI (a ||| b) := b_ext fun i hi => by rw [b_or, b_nI hi, b_nI hi, b_nI hi, Nat.testBit_or]
theorem sh1_n : ∀ n, n < 31 → ((1 : Int32) <<< (nI n &&& 31)) = nI (2 ^ n) := by decide +kernel
theorem mk9_bm {p : Nat → Bool} : ∀ n, n ≤ 31 → bm p n = nI (mk9 p n)
  | 0, _ => rfl
  | n + 1, h => by
    rw [bm, mk9, mk9_bm n (by omega)]
    split
    · rw [sh1_n n (by omega), nx_or]
    · rfl
/-- one set within another -/
def sub9 (s W : Nat) : Prop := ∀ i, s.testBit i = true → W.testBit i = true
theorem sub9_iff {s W : Nat} (hs : s < 2147483648) : (nI s &&& (nI W ^^^ (-1))) = 0 ↔ sub9 s W := by
  constructor
  · intro h i hi
    have h32 : i < 32 := by
      by_cases h9 : i < 32
      · exact h9
      · exfalso
        have : s < 2 ^ i := Nat.lt_of_lt_of_le hs (Nat.le_trans (by decide) (Nat.pow_le_pow_right (by decide) (show 31 ≤ i by omega)))
        rw [Nat.testBit_lt_two_pow this] at hi
        cases hi
    have this : bt (nI s &&& (nI W ^^^ (-1))) i = bt 0 i := congrArg (fun x => bt x i) h
    rw [b_not h32, b_nI h32, b_nI h32, b_0, hi] at this
    simpa using this
  · intro h
    apply b_ext
    intro i hi
    rw [b_not hi, b_nI hi, b_nI hi, b_0]
    cases h1 : s.testBit i with
    | false => rfl
    | true => rw [h i h1]; rfl
theorem sub9_le {s W : Nat} (h : sub9 s W) : s ≤ W := by
  have e : s ||| W = W := Nat.eq_of_testBit_eq fun i => by
    rw [Nat.testBit_or]
    cases h1 : s.testBit i with
    | false => simp
    | true => simp [h i h1]
  rw [← e]
  exact Nat.left_le_or
def sS (ν : Nt) (f : Nat → Int) (s : Nat) : Int := sm (fun o => if s.testBit o = true then f o else 0) ν.tn
/-- how many numbers below 16 -/
def pcn (s : Nat) : Nat := ((List.range 16).filter (fun i => s.testBit i)).length
section Sets
variable {ν : Nt} {σ : St} {I : gI} {N u b : Nat}
theorem sS_bd {f : Nat → Int} {B : Nat} (h : ∀ o, o < ν.tn → 0 ≤ f o ∧ f o ≤ B) (s : Nat) : 0 ≤ sS ν f s ∧ sS ν f s ≤ (ν.tn * B : Nat) := sm_bd (fun k hk => by
  have := h k hk
  show 0 ≤ (if s.testBit k = true then f k else 0) ∧ (if s.testBit k = true then f k else 0) ≤ (B : Int)
  split <;> omega)
theorem sS_add (f g : Nat → Int) (s : Nat) : sS ν (fun o => f o + g o) s = sS ν f s + sS ν g s := by
  unfold sS
  rw [← sm_add]
  apply sm_congr
  intro k _
  show (if s.testBit k = true then f k + g k else 0) = (if s.testBit k = true then f k else 0) + (if s.testBit k = true then g k else 0)
  split <;> omega
theorem sS_mul (c : Int) (f : Nat → Int) (s : Nat) : sS ν (fun o => c * f o) s = c * sS ν f s := by
  unfold sS
  generalize ν.tn = n
  induction n with
  | zero => simp [sm]
  | succ n ih =>
    rw [sm, sm, ih, Int.mul_add]
    split <;> simp
/-- one left out -/
theorem sS_clr {f : Nat → Int} {s s' o : Nat} (ho : o < ν.tn) (h1 : s.testBit o = true) (h2 : ∀ i, s'.testBit i = (s.testBit i && decide (i ≠ o))) : sS ν f s = sS ν f s' + f o := by
  unfold sS
  rw [sm_one (f := fun o => if s.testBit o = true then f o else 0) ho, if_pos h1]
  congr 1
  apply sm_congr
  intro k _
  by_cases hk : k = o
  · subst hk; rw [if_pos rfl, h2]; simp
  · rw [if_neg hk, h2]; simp [hk]
/-- harm, then how many, then bandwidth -/
def cst (ν : Nt) (σ : St) (o : Nat) : Int := ((8 - (ν.T o 4 : Int)) * 16 + 1) * 1000 + (σ.bd o : Int)
def hrm (ν : Nt) (o : Nat) : Int := 8 - (ν.T o 4 : Int)
def bnd (σ : St) (o : Nat) : Int := (σ.bd o : Int)
theorem cst_eq (s : Nat) : sS ν (cst ν σ) s = 16000 * sS ν (hrm ν) s + 1000 * sS ν (fun _ => 1) s + sS ν (bnd σ) s := by
  rw [← sS_mul, ← sS_mul, ← sS_add, ← sS_add]
  congr 1
  funext o
  unfold cst hrm bnd
  omega
/-- what a set frees of a link -/
def rlv (ν : Nt) (σ : St) (s l : Nat) : Int := sS ν (fun o => if l ∈ σ.w o then (σ.bd o : Int) else 0) s
/-- whom one may push out -/
def wkr (ν : Nt) (σ : St) (t o : Nat) : Bool := decide (o < ν.tn) && (decide (σ.w o ≠ []) && decide (ν.T t 3 < ν.T o 4))
def eno (ν : Nt) (σ : St) (t s : Nat) : Prop := ∀ l ∈ σ.w t, 0 ≤ pl ν σ 99 l 7 + rlv ν σ s l
/-- whom a tunnel pushes out -/
def psh (ν : Nt) (σ : St) (t s : Nat) : Prop := s < 2 ^ ν.tn ∧ (∀ o, s.testBit o = true → wkr ν σ t o = true) ∧ eno ν σ t s ∧ ∀ s', s' < 2 ^ ν.tn → (∀ o, s'.testBit o = true → wkr ν σ t o = true) → eno ν σ t s' → sS ν (cst ν σ) s < sS ν (cst ν σ) s' ∨ (sS ν (cst ν σ) s = sS ν (cst ν σ) s' ∧ s ≤ s')
theorem psh_one {t s s' : Nat} (h : psh ν σ t s) (h' : psh ν σ t s') : s = s' := by
  have h1 := h.2.2.2 s' h'.1 h'.2.1 h'.2.2.1
  have h2 := h'.2.2.2 s h.1 h.2.1 h.2.2.1
  omega
/-! the class -/
theorem c_cost (hn : WfN ν) (hI : NetC ν I) (hs : CS ν u σ I) (hw : WfW ν σ) (hN : 100 ≤ N) (s : Nat) : mX2_costOf N u (nI s) I = some (zI (sS ν (cst ν σ) s)) := by
  have htn := hn.2.2.2.1
  obtain ⟨v, hP, e⟩ := loopP (F := fun n v i => mX2_costOf_4 u (nI s) I n v i) (b := ν.tn) (out := id)
    (P := fun k v => v = zI (sm (fun o => if s.testBit o = true then cst ν σ o else 0) k))
    (fun n v _ => by
      show mX2_costOf_4 u (nI s) I (n + 1) v (nI ν.tn) = some v
      rw [mX2_costOf_4, hI.2.2.1, if_pos (nI_le (Nat.le_refl _) (by omega))])
    (fun n k v hk hP => by
      refine ⟨_, ?_, rfl⟩
      show mX2_costOf_4 u (nI s) I (n + 1) v (nI k) = mX2_costOf_4 u (nI s) I n _ (nI (k + 1))
      have e12 : I 12 k = nI (ν.T k 4) := hI.2.2.2.2 k hk 4 (by decide)
      rw [mX2_costOf_4, hI.2.2.1, if_neg (nI_ge hk (by omega)), ck_n (by omega) (by decide), nI_clamp (by omega), e12, (hs.2 k hk).2, nm_n, nI_1, sm, hP]
      have e9 : (((8 - nI (ν.T k 4)) * 16 + 1) * 1000 + nI (σ.bd k) : Int32) = zI (cst ν σ k) := by
        unfold cst
        rw [← zI_nat (ν.T k 4), ← zI_nat (σ.bd k), show (8 : Int32) = zI 8 from rfl, show (16 : Int32) = zI 16 from rfl, show (1 : Int32) = zI 1 from rfl, show (1000 : Int32) = zI 1000 from rfl, zI_sub, zI_mul, zI_add, zI_mul, zI_add]
      rw [e9]
      cases h1 : s.testBit k with
      | true => rw [if_neg (fun h => by rw [cb0 (by omega), b_nI (by omega), h1] at h; cases h), if_pos rfl, zI_add]
      | false => rw [if_pos (by rw [cb0 (by omega), b_nI (by omega), h1]), if_neg (by decide), Int.add_zero])
    N 0 0 (Nat.zero_le _) (by omega) rfl
  unfold mX2_costOf
  rw [show mX2_costOf_4 u (nI s) I N 0 0 = some v from e, ob_some, hP]
  rfl
theorem c_rel34 (hn : WfN ν) (hI : NetC ν I) (hs : CS ν u σ I) (hw : WfW ν σ) (hN : 100 ≤ N) {s l : Nat} {k2 : Int32} (hl : l < ν.ln) (x : Int) : mX2_relieves_34 u (nI s) k2 (nI l) I N (zI x) 0 = some (zI (x + rlv ν σ s l)) := by
  have htn := hn.2.2.2.1
  have hln := hn.2.2.1
  obtain ⟨v, hP, e⟩ := loopP (F := fun n v i => mX2_relieves_34 u (nI s) k2 (nI l) I n v i) (b := ν.tn) (out := id)
    (P := fun k v => v = zI (x + sm (fun o => if s.testBit o = true then (if l ∈ σ.w o then (σ.bd o : Int) else 0) else 0) k))
    (fun n v _ => by
      show mX2_relieves_34 u (nI s) k2 (nI l) I (n + 1) v (nI ν.tn) = some v
      rw [mX2_relieves_34, hI.2.2.1, if_pos (nI_le (Nat.le_refl _) (by omega))])
    (fun n k v hk hP => by
      refine ⟨_, ?_, rfl⟩
      show mX2_relieves_34 u (nI s) k2 (nI l) I (n + 1) v (nI k) = mX2_relieves_34 u (nI s) k2 (nI l) I n _ (nI (k + 1))
      have eb : (((ushr (nI s) (nI k)) &&& (ushr (wb (σ.w k)) (nI l))) &&& 1 : Int32) = 0 ↔ ¬ (s.testBit k = true ∧ l ∈ σ.w k) := by
        have e1 : (((ushr (nI s) (nI k)) &&& (ushr (wb (σ.w k)) (nI l))) &&& 1 : Int32) = (((ushr (nI s) (nI k)) &&& 1) &&& ((ushr (wb (σ.w k)) (nI l)) &&& 1)) := b_ext fun i hi => by
          rw [b_and, b_and, b_and, b_and, b_and]
          cases bt (ushr (nI s) (nI k)) i <;> cases bt (ushr (wb (σ.w k)) (nI l)) i <;> cases bt 1 i <;> rfl
        rw [e1, cbv (by omega), cbv (by omega), b_nI (by omega), wb_t hn hw hk (by omega)]
        by_cases h1 : s.testBit k = true <;> by_cases h2 : l ∈ σ.w k <;> simp [h1, h2]
      rw [mX2_relieves_34, hI.2.2.1, if_neg (nI_ge hk (by omega)), ck_n (by omega) (by decide), nI_clamp (by omega), (hs.2 k hk).1, (hs.2 k hk).2, nm_n, nI_1, sm, hP]
      by_cases h1 : s.testBit k = true
      · by_cases h2 : l ∈ σ.w k
        · rw [if_neg (fun h => eb.mp h ⟨h1, h2⟩), if_pos h1, if_pos h2, zI_addn, Int.add_assoc]
        · rw [if_pos (eb.mpr (fun h => h2 h.2)), if_pos h1, if_neg h2, Int.add_zero]
      · rw [if_pos (eb.mpr (fun h => h1 h.1)), if_neg h1, Int.add_zero])
    N 0 (zI x) (Nat.zero_le _) (by omega) (by rw [sm, Int.add_zero])
  rw [show mX2_relieves_34 u (nI s) k2 (nI l) I N (zI x) 0 = some v from e, hP]
  rfl
theorem rlv_bd (hn : WfN ν) (hw : WfW ν σ) (s l : Nat) : 0 ≤ rlv ν σ s l ∧ rlv ν σ s l ≤ 891 := by
  have h1 := sS_bd (ν := ν) (B := 99) (f := fun o => if l ∈ σ.w o then (σ.bd o : Int) else 0) (fun o ho => by
    have := (hw o ho).1
    show 0 ≤ (if l ∈ σ.w o then (σ.bd o : Int) else 0) ∧ (if l ∈ σ.w o then (σ.bd o : Int) else 0) ≤ (99 : Nat)
    split <;> omega) s
  have h3 := hn.2.2.2.1
  have h4 : ν.tn * 99 ≤ 9 * 99 := Nat.mul_le_mul_right 99 h3
  unfold rlv
  omega
theorem c_rel (hn : WfN ν) (hI : NetC ν I) (hs : CS ν u σ I) (hw : WfW ν σ) (hN : 100 ≤ N) {s : Nat} {ov : Int32} : (mX2_relieves N u (nI s) ov I = some 1 ∧ ∀ l, l < ν.ln → bt ov l = true → 0 ≤ pl ν σ 99 l 7 + rlv ν σ s l) ∨ (mX2_relieves N u (nI s) ov I = some 0 ∧ ¬ ∀ l, l < ν.ln → bt ov l = true → 0 ≤ pl ν σ 99 l 7 + rlv ν σ s l) := by
  have hln := hn.2.2.1
  have h9 := loopR (F := fun n (_ : Unit) i => mX2_relieves_2 N u (nI s) ov I n i) (b := ν.ln) (out := fun _ => Sum.inl ()) (Qr := fun r => r = .inr 0 ∧ ¬ ∀ l, l < ν.ln → bt ov l = true → 0 ≤ pl ν σ 99 l 7 + rlv ν σ s l)
    (P := fun k _ => ∀ l, l < k → bt ov l = true → 0 ≤ pl ν σ 99 l 7 + rlv ν σ s l)
    (fun n _ _ => by
      show mX2_relieves_2 N u (nI s) ov I (n + 1) (nI ν.ln) = _
      rw [mX2_relieves_2, hI.2.1, if_pos (nI_le (Nat.le_refl _) (by omega))])
    (fun n k _ hk hP => by
      have hb1 := pl_sml (x := 99) (p := 7) hn hw hk
      have hb2 := rlv_bd hn hw s k
      have key : mX2_relieves_2 N u (nI s) ov I (n + 1) (nI k) = if bt ov k = true ∧ ¬ 0 ≤ pl ν σ 99 k 7 + rlv ν σ s k then some (.inr 0) else mX2_relieves_2 N u (nI s) ov I n (nI (k + 1)) := by
        rw [mX2_relieves_2, hI.2.1, if_neg (nI_ge hk (by omega)), show (7 : Int32) = nI 7 from rfl, c_pool hn hI hs hw hN (Or.inr ⟨rfl, show 9 ≤ 99 by omega⟩) hk (Nat.le_refl 7), ob_some, c_rel34 hn hI hs hw hN hk, ob_some, nI_1]
        cases h1 : bt ov k with
        | false => rw [if_pos ((cb0 (by omega) _).mpr h1), if_neg (fun h => by cases h.1)]
        | true =>
          rw [if_neg (fun h => by rw [(cb0 (by omega) _).mp h] at h1; cases h1), show (0 : Int32) = zI 0 from rfl]
          by_cases h2 : 0 ≤ pl ν σ 99 k 7 + rlv ν σ s k
          · rw [if_pos ((zI_le ⟨by omega, by omega⟩ ⟨by omega, by omega⟩).mpr h2), if_neg (fun h => h.2 h2)]
          · rw [if_neg (fun h => h2 ((zI_le ⟨by omega, by omega⟩ ⟨by omega, by omega⟩).mp h)), if_pos ⟨rfl, h2⟩]
      by_cases hc : bt ov k = true ∧ ¬ 0 ≤ pl ν σ 99 k 7 + rlv ν σ s k
      · exact Or.inr ⟨_, by show mX2_relieves_2 _ _ _ _ _ (n + 1) (nI k) = _; rw [key, if_pos hc], rfl, fun h => hc.2 (h k hk hc.1)⟩
      · refine Or.inl ⟨(), by show mX2_relieves_2 _ _ _ _ _ (n + 1) (nI k) = _; rw [key, if_neg hc], fun l hl hb => ?_⟩
        by_cases he : l = k
        · subst he
          exact Classical.byContradiction fun h => hc ⟨hb, h⟩
        · exact hP l (by omega) hb)
    N 0 () (Nat.zero_le _) (by omega) (fun l h => by omega)
  unfold mX2_relieves
  rcases h9 with ⟨-, hP, e⟩ | ⟨r, e, rfl, h2⟩
  · exact Or.inl ⟨by rw [show mX2_relieves_2 N u (nI s) ov I N 0 = _ from e, lb_l], hP⟩
  · exact Or.inr ⟨by rw [show mX2_relieves_2 N u (nI s) ov I N 0 = _ from e, lb_r], h2⟩
end Sets
