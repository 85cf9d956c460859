/-! the class: the least metric of walks, by rows -/
def Fr (X : List Nat) (I I' : gI) : Prop := ∀ c, c ∉ X → I' c = I c
theorem Fr.rf {X : List Nat} {I : gI} : Fr X I I := fun _ _ => rfl
theorem Fr.tr {X : List Nat} {I I' I'' : gI} (h : Fr X I I') (h2 : Fr X I' I'') : Fr X I I'' := fun c hc => (h2 c hc).trans (h c hc)
theorem Fr.mono {X Y : List Nat} {I I' : gI} (h : Fr X I I') (hXY : ∀ c ∈ X, c ∈ Y) : Fr Y I I' := fun c hc => h c (fun h1 => hc (hXY c h1))
theorem Fr.u2 {X : List Nat} {I I' : gI} (h : Fr X I I') {a j : Nat} {v : Int32} (ha : a ∈ X) : Fr X I (upd2 I' a j v) := fun c hc => (u2_c (fun e => hc (by rw [e]; exact ha))).trans (h c hc)
theorem NetC.fr {ν : Nt} {X : List Nat} {I I' : gI} (h : NetC ν I) (hf : Fr X I I') (hX : ∀ c ∈ X, c < 2 ∨ 14 < c) : NetC ν I' := by
  have e : ∀ c, 2 ≤ c → c ≤ 14 → I' c = I c := fun c h1 h2 => hf c (fun hc => by have := hX c hc; omega)
  refine ⟨by rw [e 2 (by omega) (by omega)]; exact h.1, by rw [e 2 (by omega) (by omega)]; exact h.2.1, by rw [e 2 (by omega) (by omega)]; exact h.2.2.1, fun l hl j hj => by rw [e (3 + j) (by omega) (by omega)]; exact h.2.2.2.1 l hl j hj, fun t ht j hj => by rw [e (8 + j) (by omega) (by omega)]; exact h.2.2.2.2 t ht j hj⟩
def rwD (ν : Nt) (go : Nat → Bool) (D : Nat → Nat) : Nat → Nat → Nat
  | 0, n => D n
  | k + 1, n => if go k = true ∧ ν.L k 0 = n ∧ ν.L k 2 + D (ν.L k 1) < rwD ν go D k n then ν.L k 2 + D (ν.L k 1) else rwD ν go D k n
def Dm (ν : Nt) (go : Nat → Bool) (z : Nat) : Nat → Nat → Nat
  | 0, n => if n = z then 0 else 1000000
  | r + 1, n => rwD ν go (Dm ν go z r) ν.ln n
section Least
variable {ν : Nt} {go : Nat → Bool} {I : gI} {N : Nat}
theorem rwD_le (D : Nat → Nat) (n : Nat) : ∀ k, rwD ν go D k n ≤ D n
  | 0 => Nat.le_refl _
  | k + 1 => by
    have := rwD_le D n k
    rw [rwD]
    split <;> omega
theorem Dm_le {z n : Nat} : ∀ r, Dm ν go z r n ≤ 1000000
  | 0 => by rw [Dm]; split <;> omega
  | r + 1 => Nat.le_trans (rwD_le _ _ _) (Dm_le r)
theorem rwD_link (D : Nat → Nat) {n l : Nat} : ∀ {k : Nat}, l < k → go l = true → ν.L l 0 = n → rwD ν go D k n ≤ ν.L l 2 + D (ν.L l 1)
  | k + 1, hl, hg, hn => by
    by_cases h : l = k
    · subst h
      rw [rwD]
      split
      · exact Nat.le_refl _
      · next h => have : ¬ ν.L l 2 + D (ν.L l 1) < rwD ν go D l n := fun h2 => h ⟨hg, hn, h2⟩
                  omega
    · have := rwD_link D (k := k) (by omega) hg hn
      rw [rwD]
      split <;> omega
theorem rwD_of (D : Nat → Nat) {n : Nat} : ∀ {k : Nat}, rwD ν go D k n = D n ∨ ∃ l, l < k ∧ go l = true ∧ ν.L l 0 = n ∧ rwD ν go D k n = ν.L l 2 + D (ν.L l 1)
  | 0 => Or.inl rfl
  | k + 1 => by
    rw [rwD]
    split
    · next h => exact Or.inr ⟨k, by omega, h.1, h.2.1, rfl⟩
    · rcases rwD_of D (n := n) (k := k) with e | ⟨l, h1, h2⟩
      · exact Or.inl e
      · exact Or.inr ⟨l, by omega, h2⟩
theorem Dm_mono {z n : Nat} (r : Nat) : Dm ν go z (r + 1) n ≤ Dm ν go z r n := rwD_le _ _ _
theorem Dm_mono' {z n : Nat} {r s : Nat} (h : r ≤ s) : Dm ν go z s n ≤ Dm ν go z r n := by
  induction s with
  | zero => have : r = 0 := by omega
            subst this; exact Nat.le_refl _
  | succ s ih =>
    by_cases e : r = s + 1
    · subst e; exact Nat.le_refl _
    · exact Nat.le_trans (Dm_mono s) (ih (by omega))
/-- no walk is shorter -/
theorem Dm_walk {z : Nat} : ∀ {p : List Nat} {a r : Nat}, chn ν a p z → (∀ l ∈ p, go l = true) → p.length ≤ r → Dm ν go z r a ≤ mt ν p
  | [], a, r, h, _, _ => by
    have h0 : Dm ν go z 0 a = 0 := by cases h; rw [Dm, if_pos rfl]
    have := Dm_mono' (ν := ν) (go := go) (z := z) (n := a) (Nat.zero_le r)
    omega
  | l :: p, a, 0, h, _, hr => by simp at hr
  | l :: p, a, r + 1, h, hg, hr => by
    have h1 := Dm_walk h.2.2 (fun x hx => hg x (List.mem_cons_of_mem _ hx)) (show p.length ≤ r by simp at hr; omega)
    have h2 := rwD_link (ν := ν) (go := go) (Dm ν go z r) h.1 (hg l List.mem_cons_self) h.2.1
    show rwD ν go (Dm ν go z r) ν.ln a ≤ _
    rw [mt]
    omega
/-- there is one -/
theorem Dm_ex {z : Nat} : ∀ {r a : Nat}, Dm ν go z r a < 1000000 → ∃ p, chn ν a p z ∧ (∀ l ∈ p, go l = true) ∧ p.length ≤ r ∧ mt ν p = Dm ν go z r a
  | 0, a, h => by
    rw [Dm] at h ⊢
    by_cases e : a = z
    · exact ⟨[], e, fun l hl => (by cases hl), Nat.le_refl _, by rw [if_pos e]; rfl⟩
    · rw [if_neg e] at h; omega
  | r + 1, a, h => by
    rcases rwD_of (ν := ν) (go := go) (Dm ν go z r) (n := a) (k := ν.ln) with e | ⟨l, h1, h2, h3, h4⟩
    · have e' : Dm ν go z (r + 1) a = Dm ν go z r a := e
      rw [e'] at h ⊢
      obtain ⟨p, p1, p2, p3, p4⟩ := Dm_ex h
      exact ⟨p, p1, p2, by omega, p4⟩
    · have e' : Dm ν go z (r + 1) a = ν.L l 2 + Dm ν go z r (ν.L l 1) := h4
      rw [e'] at h ⊢
      obtain ⟨p, p1, p2, p3, p4⟩ := Dm_ex (z := z) (r := r) (a := ν.L l 1) (by omega)
      refine ⟨l :: p, ⟨h1, h3, p1⟩, fun x hx => ?_, by simp; omega, by rw [mt, p4]⟩
      rcases List.mem_cons.mp hx with rfl | hx
      · exact h2
      · exact p2 x hx
theorem Dm_fix {z r : Nat} (h : ∀ n, Dm ν go z (r + 1) n = Dm ν go z r n) : ∀ s, r ≤ s → ∀ n, Dm ν go z s n = Dm ν go z r n := by
  intro s
  induction s with
  | zero => intro hs n; have : r = 0 := by omega
            subst this; rfl
  | succ s ih =>
    intro hs n
    by_cases e : r = s + 1
    · subst e; rfl
    · have h1 := ih (by omega)
      rw [Dm, show Dm ν go z s = Dm ν go z r from funext h1]
      exact h n
/-! the walks over the class's rows -/
theorem c_lm3 {k1 k2 k4 : Int32} {z : Nat} (hz : z < 8) (hN : 100 ≤ N) : ∃ I', mX6_leastMetric_3 k1 k2 (nI z) k4 N 0 I = some I' ∧ Fr [32] I I' ∧ ∀ n, n < 8 → I' 32 n = nI (if n = z then 0 else 1000000) := by
  obtain ⟨I', hP, e⟩ := loopP (F := fun n s i => mX6_leastMetric_3 k1 k2 (nI z) k4 n i s) (b := 8) (out := id)
    (P := fun k s => Fr [32] I s ∧ ∀ n, n < k → s 32 n = nI (if n = z then 0 else 1000000))
    (fun n s _ => by
      show mX6_leastMetric_3 k1 k2 (nI z) k4 (n + 1) (nI 8) s = some s
      rw [mX6_leastMetric_3, if_pos (show (8 : Int32) ≤ nI 8 from nI_le (Nat.le_refl _) (by omega))])
    (fun n k s hk hP => by
      refine ⟨upd2 s 32 k (nI (if k = z then 0 else 1000000)), ?_, hP.1.u2 (by simp), fun m hm => ?_⟩
      · show mX6_leastMetric_3 k1 k2 (nI z) k4 (n + 1) (nI k) s = mX6_leastMetric_3 k1 k2 (nI z) k4 n (nI (k + 1)) _
        rw [mX6_leastMetric_3, if_neg (show ¬ (8 : Int32) ≤ nI k from nI_ge (b := 8) hk (by decide)), ck_n (by omega) (by decide), ck_n (by omega) (by decide), nI_clamp (by omega), nI_1]
        by_cases h : k = z
        · subst h; rw [if_pos rfl, if_pos rfl]; rfl
        · rw [if_neg (fun e => h ((nI_eq (by omega) (by omega)).mp e)), if_neg h]; rfl
      · by_cases h : m = k
        · subst h; exact u2_at
        · rw [u2_ne (fun e => h e.2)]; exact hP.2 m (by omega))
    N 0 I (by omega) (by omega) ⟨Fr.rf, fun n hn => by omega⟩
  exact ⟨I', e, hP⟩
set_option maxHeartbeats 2000000 in
/-- one row out of the last one -/
theorem c_lm115 (hn : WfN ν) {x k2 k4 : Int32} {r : Nat} (hr : r ≤ 6) (hgo : ∀ l, l < ν.ln → go l = bt x l) (D : Nat → Nat) (hD : ∀ n, D n ≤ 1000000) (hN : 100 ≤ N) (hI : NetC ν I) (h0 : ∀ n, n < 8 → I 32 (r * 8 + n) = nI (D n)) (h1 : ∀ n, n < 8 → I 32 (r * 8 + 8 + n) = nI (D n)) :
    ∃ v I', mX6_leastMetric_115 x k2 k4 (nI (r * 8)) (nI (r * 8 + 8)) N 0 0 I = some (v, I') ∧ Fr [32] I I' ∧ (∀ j, j < r * 8 + 8 → I' 32 j = I 32 j) ∧ (∀ n, n < 8 → I' 32 (r * 8 + 8 + n) = nI (rwD ν go D ν.ln n)) ∧ ((v = 0 ∧ ∀ n, n < 8 → rwD ν go D ν.ln n = D n) ∨ v = 1) := by
  have hln := hn.2.2.1
  have hnn := hn.2.1
  obtain ⟨⟨v, I'⟩, hP, e⟩ := loopP (F := fun n (s : Int32 × gI) i => mX6_leastMetric_115 x k2 k4 (nI (r * 8)) (nI (r * 8 + 8)) n s.1 i s.2) (b := ν.ln) (out := id)
    (P := fun k s => Fr [32] I s.2 ∧ (∀ j, j < r * 8 + 8 → s.2 32 j = I 32 j) ∧ (∀ n, n < 8 → s.2 32 (r * 8 + 8 + n) = nI (rwD ν go D k n)) ∧ ((s.1 = 0 ∧ ∀ n, n < 8 → rwD ν go D k n = D n) ∨ s.1 = 1))
    (fun n s hP => by
      show mX6_leastMetric_115 x k2 k4 (nI (r * 8)) (nI (r * 8 + 8)) (n + 1) s.1 (nI ν.ln) s.2 = some s
      rw [mX6_leastMetric_115, (hI.fr hP.1 (by simp)).2.1, if_pos (nI_le (Nat.le_refl _) (by omega))])
    (fun n k s hk hP => by
      have hI' := hI.fr hP.1 (by simp)
      have hL := hn.2.2.2.2.1 k hk
      have e3 : s.2 3 k = nI (ν.L k 0) := hI'.2.2.2.1 k hk 0 (by decide)
      have e4 : s.2 4 k = nI (ν.L k 1) := hI'.2.2.2.1 k hk 1 (by decide)
      have e5 : s.2 5 k = nI (ν.L k 2) := hI'.2.2.2.1 k hk 2 (by decide)
      have hDk := hD (ν.L k 1)
      have hrw : rwD ν go D k (ν.L k 0) ≤ 1000000 := Nat.le_trans (rwD_le _ _ _) (hD _)
      have e6 : s.2 32 (r * 8 + ν.L k 1) = nI (D (ν.L k 1)) := by rw [hP.2.1 _ (by omega)]; exact h0 _ (by omega)
      have e7 : s.2 32 (r * 8 + 8 + ν.L k 0) = nI (rwD ν go D k (ν.L k 0)) := hP.2.2.1 _ (by omega)
      have key : mX6_leastMetric_115 x k2 k4 (nI (r * 8)) (nI (r * 8 + 8)) (n + 1) s.1 (nI k) s.2 = if go k = true ∧ ν.L k 2 + D (ν.L k 1) < rwD ν go D k (ν.L k 0) then mX6_leastMetric_115 x k2 k4 (nI (r * 8)) (nI (r * 8 + 8)) n 1 (nI (k + 1)) (upd2 s.2 32 (r * 8 + 8 + ν.L k 0) (nI (ν.L k 2 + D (ν.L k 1)))) else mX6_leastMetric_115 x k2 k4 (nI (r * 8)) (nI (r * 8 + 8)) n s.1 (nI (k + 1)) s.2 := by
        rw [mX6_leastMetric_115, hI'.2.1, if_neg (nI_ge hk (by omega)), ck_n (by omega) (by decide), nI_clamp (by omega), e3, e4, e5, nI_add, nI_add, ck_n (by omega) (by decide), nI_clamp (by omega), e6, nI_add, nI_1, nm_n, ck_n (by omega) (by decide), nI_clamp (by omega), e7]
        have hg := hgo k hk
        cases hb : bt x k with
        | false =>
          rw [if_pos ((cb0 (by omega) x).mpr hb), if_neg (fun h => by rw [hg, hb] at h; cases h.1)]
        | true =>
          rw [if_neg (fun h => by rw [(cb0 (by omega) x).mp h] at hb; cases hb)]
          by_cases hlt : ν.L k 2 + D (ν.L k 1) < rwD ν go D k (ν.L k 0)
          · rw [if_neg (nI_ge hlt (by omega)), if_pos ⟨hg.trans hb, hlt⟩]
          · rw [if_pos (nI_le (by omega) (by omega)), if_neg (fun h => hlt h.2)]
      by_cases hc : go k = true ∧ ν.L k 2 + D (ν.L k 1) < rwD ν go D k (ν.L k 0)
      · refine ⟨(1, upd2 s.2 32 (r * 8 + 8 + ν.L k 0) (nI (ν.L k 2 + D (ν.L k 1)))), by rw [if_pos hc] at key; exact key, hP.1.u2 (by simp), fun j hj => ?_, fun m hm => ?_, Or.inr rfl⟩
        · show upd2 s.2 32 (r * 8 + 8 + ν.L k 0) _ 32 j = _
          rw [u2_ne (by omega)]; exact hP.2.1 j hj
        · show upd2 s.2 32 (r * 8 + 8 + ν.L k 0) _ 32 (r * 8 + 8 + m) = _
          by_cases hm2 : m = ν.L k 0
          · rw [hm2, u2_at, rwD, if_pos ⟨hc.1, rfl, hc.2⟩]
          · rw [u2_ne (by omega), rwD, if_neg (fun h => hm2 h.2.1.symm)]; exact hP.2.2.1 m hm
      · refine ⟨s, by rw [if_neg hc] at key; exact key, hP.1, hP.2.1, fun m hm => ?_, ?_⟩
        · rw [rwD, if_neg (fun h => hc ⟨h.1, by rw [h.2.1]; exact h.2.2⟩)]; exact hP.2.2.1 m hm
        · rcases hP.2.2.2 with ⟨h1, h2⟩ | h1
          · exact Or.inl ⟨h1, fun m hm => by rw [rwD, if_neg (fun h => hc ⟨h.1, by rw [h.2.1]; exact h.2.2⟩)]; exact h2 m hm⟩
          · exact Or.inr h1)
    N 0 (0, I) (by omega) (by omega) ⟨Fr.rf, fun _ _ => rfl, h1, Or.inl ⟨rfl, fun _ _ => rfl⟩⟩
  exact ⟨v, I', e, hP⟩
set_option maxHeartbeats 2000000 in
/-- the rows, up to a row that doesn't change or to h -/
theorem c_lm43 (hn : WfN ν) {x k2 : Int32} {h z : Nat} (hh : h ≤ 7) (hgo : ∀ l, l < ν.ln → go l = bt x l) (hN : 100 ≤ N) : ∀ (m n r : Nat) (v : Int32) (I : gI), r + m = h → m < n → NetC ν I → I 30 6 = nI r → (∀ j, j ≤ r → ∀ k, k < 8 → I 32 (j * 8 + k) = nI (Dm ν go z j k)) → ((v = 0 ∧ ∀ k, k < 8 → Dm ν go z h k = Dm ν go z r k) ∨ v = 1) →
    ∃ I' r', mX6_leastMetric_43 N x k2 (nI h) n v I = some I' ∧ Fr [30, 32] I I' ∧ r' ≤ h ∧ I' 30 6 = nI r' ∧ (∀ j, j ≤ r' → ∀ k, k < 8 → I' 32 (j * 8 + k) = nI (Dm ν go z j k)) ∧ ∀ k, k < 8 → Dm ν go z r' k = Dm ν go z h k := by
  intro m
  induction m with
  | zero =>
    intro n r v I hr hm hI h30 h32 hv
    obtain rfl : r = h := by omega
    obtain ⟨n, rfl⟩ : ∃ k, n = k + 1 := ⟨n - 1, by omega⟩
    refine ⟨I, r, ?_, Fr.rf, Nat.le_refl _, h30, h32, fun _ _ => rfl⟩
    rw [mX6_leastMetric_43, h30, if_pos (nI_le (Nat.le_refl _) (by omega))]
    split <;> rfl
  | succ m ih =>
    intro n r v I hr hm hI h30 h32 hv
    obtain ⟨n, rfl⟩ : ∃ k, n = k + 1 := ⟨n - 1, by omega⟩
    rcases hv with ⟨rfl, hv⟩ | rfl
    · refine ⟨I, r, ?_, Fr.rf, by omega, h30, h32, fun k hk => (hv k hk).symm⟩
      rw [mX6_leastMetric_43, if_pos rfl]
    · have e8 : nI r * 8 = nI (r * 8) := nI_mul r 8
      have e88 : nI (r * 8) + 8 = nI (r * 8 + 8) := nI_add _ 8
      have c8 : (8 : Int32).toNatClampNeg = 8 := by decide
      -- the copy of the last row
      obtain ⟨I1, hI1⟩ : ∃ I1, I1 = updRow (upd2 I 30 6 (nI (r + 1))) 32 (va_cpy ((upd2 I 30 6 (nI (r + 1))) 32) ((upd2 I 30 6 (nI (r + 1))) 32) (r * 8) (r * 8 + 8) 8) := ⟨_, rfl⟩
      have f1 : Fr [30, 32] I I1 := by
        intro c hc
        have h1 : c ≠ 32 := fun e => hc (by rw [e]; simp)
        have h2 : c ≠ 30 := fun e => hc (by rw [e]; simp)
        rw [hI1]
        show (if c = 32 then _ else upd2 I 30 6 _ c) = _
        rw [if_neg h1, u2_c h2]
      have a1 : ∀ j, I1 32 j = if r * 8 + 8 ≤ j ∧ j < r * 8 + 8 + 8 then I 32 (r * 8 + (j - (r * 8 + 8))) else I 32 j := by
        intro j
        rw [hI1]
        show va_cpy (upd2 I 30 6 _ 32) (upd2 I 30 6 _ 32) (r * 8) (r * 8 + 8) 8 j = _
        rw [u2_c (by decide)]
        rfl
      have hr30 : I1 30 6 = nI (r + 1) := by
        rw [hI1]
        show upd2 I 30 6 _ 30 6 = _
        exact u2_at
      have hI1n : NetC ν I1 := hI.fr f1 (by simp)
      obtain ⟨v', I2, e2, f2, b2, d2, hv2⟩ := c_lm115 (k2 := k2) (k4 := nI h) (I := I1) hn (show r ≤ 6 by omega) hgo (Dm ν go z r) (fun k => Dm_le r) hN hI1n
        (fun k hk => by rw [a1, if_neg (by omega)]; exact h32 r (Nat.le_refl _) k hk)
        (fun k hk => by rw [a1, if_pos (by omega), show r * 8 + (r * 8 + 8 + k - (r * 8 + 8)) = r * 8 + k by omega]; exact h32 r (Nat.le_refl _) k hk)
      have f12 : Fr [30, 32] I I2 := f1.tr (f2.mono (by simp))
      have h32' : ∀ j, j ≤ r + 1 → ∀ k, k < 8 → I2 32 (j * 8 + k) = nI (Dm ν go z j k) := by
        intro j hj k hk
        by_cases e : j = r + 1
        · subst e
          rw [show (r + 1) * 8 + k = r * 8 + 8 + k by omega]
          exact d2 k hk
        · rw [b2 _ (by omega), a1, if_neg (by omega)]
          exact h32 j (by omega) k hk
      have hv3 : (v' = 0 ∧ ∀ k, k < 8 → Dm ν go z h k = Dm ν go z (r + 1) k) ∨ v' = 1 := by
        rcases hv2 with ⟨h1, h2⟩ | h1
        · refine Or.inl ⟨h1, fun k hk => ?_⟩
          have hall : ∀ k, Dm ν go z (r + 1) k = Dm ν go z r k := by
            intro k
            by_cases hk : k < 8
            · exact h2 k hk
            · rcases rwD_of (ν := ν) (go := go) (Dm ν go z r) (n := k) (k := ν.ln) with e | ⟨l, q1, q2, q3, q4⟩
              · exact e
              · have := (hn.2.2.2.2.1 l q1).1
                have := hn.2.1
                omega
          rw [Dm_fix hall h (by omega), hall]
        · exact Or.inr h1
      obtain ⟨I3, r', e3, f3, q1, q2, q3, q4⟩ := ih n (r + 1) v' I2 (by omega) (by omega) (hI.fr f12 (by simp)) (by rw [f2 30 (by simp)]; exact hr30) h32' hv3
      refine ⟨I3, r', ?_, f12.tr f3, q1, q2, q3, q4⟩
      have n1 : ¬ (1 : Int32) = 0 := by decide
      rw [mX6_leastMetric_43, if_neg n1, h30, if_neg (nI_ge (by omega) (by omega)), if_neg (show ¬ (7 : Int32) ≤ nI r from nI_ge (b := 7) (by omega) (by decide)), e8, e88, c8, nI_1]
      rw [show nn (nI (r * 8)) = fun (x : Option gI) => x from funext fun x => if_neg (nI_pos (by omega)), show nn (nI (r * 8 + 8)) = fun (x : Option gI) => x from funext fun x => if_neg (nI_pos (by omega))]
      rw [nI_clamp (by omega), nI_clamp (by omega)]
      show lt9 (r * 8 + 8) 64 (lt9 (r * 8 + 8 + 8) 64 _) = _
      unfold lt9
      rw [if_pos (by omega), if_pos (by omega), nm_n, ← hI1, e2, ob_some]
      exact e3
set_option maxHeartbeats 1000000 in
/-- the least metric: its rows stand behind it -/
theorem c_lm (hn : WfN ν) (hI : NetC ν I) {x : Int32} {a z h : Nat} (ha : a < 8) (hz : z < 8) (hh : h ≤ 7) (hgo : ∀ l, l < ν.ln → go l = bt x l) (hN : 100 ≤ N) :
    ∃ I' r, mX6_leastMetric N x (nI a) (nI z) (nI h) I = some (nI (Dm ν go z h a), I') ∧ Fr [30, 32] I I' ∧ r ≤ h ∧ I' 30 6 = nI r ∧ (∀ j, j ≤ r → ∀ k, k < 8 → I' 32 (j * 8 + k) = nI (Dm ν go z j k)) ∧ ∀ k, k < 8 → Dm ν go z r k = Dm ν go z h k := by
  obtain ⟨I1, e1, f1, d1⟩ := c_lm3 (I := I) (k1 := x) (k2 := nI a) (k4 := nI h) hz hN
  have f1' : Fr [30, 32] I (upd2 I1 30 6 0) := (f1.mono (by simp)).u2 (by simp)
  obtain ⟨I2, r, e2, f2, q1, q2, q3, q4⟩ := c_lm43 (k2 := nI a) hn hh hgo hN h N 0 1 (upd2 I1 30 6 0) (by omega) (by omega) (hI.fr f1' (by simp)) u2_at (fun j hj k hk => by
    obtain rfl : j = 0 := by omega
    rw [u2_c (by decide), Nat.zero_mul, Nat.zero_add, d1 k hk, Dm]) (Or.inr rfl)
  refine ⟨I2, r, ?_, f1'.tr f2, q1, q2, q3, q4⟩
  have e8 : nI r * 8 = nI (r * 8) := nI_mul r 8
  unfold mX6_leastMetric
  rw [e1, ob_some, e2, ob_some, q2, e8, nI_add, ck_n (by omega) (by decide), nI_clamp (by omega), q3 r (Nat.le_refl _) a ha, q4 a ha]
end Least
