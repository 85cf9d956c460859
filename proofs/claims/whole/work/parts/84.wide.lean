/-! the widest way -/
def rwW (ν : Nt) (go : Nat → Bool) (wd : Nat → Int) (S0 : Nat → Int) : Nat → Nat → Int
  | 0, n => S0 n
  | k + 1, n => if go k = true ∧ ν.L k 1 = n then (if rwW ν go wd S0 k n < (if S0 (ν.L k 0) < wd k then S0 (ν.L k 0) else wd k) then (if S0 (ν.L k 0) < wd k then S0 (ν.L k 0) else wd k) else rwW ν go wd S0 k n) else rwW ν go wd S0 k n
def Wm (ν : Nt) (go : Nat → Bool) (wd : Nat → Int) (a : Nat) : Nat → Nat → Int
  | 0, n => if n = a then 1000000 else 0
  | k + 1, n => rwW ν go wd (Wm ν go wd a k) ν.ln n
section Wide
variable {ν : Nt} {go : Nat → Bool} {wd : Nat → Int} {σ : St} {N u a z h : Nat} {I : gI}
theorem rwW_ge {S0 : Nat → Int} {w : Int} {n : Nat} : ∀ {k : Nat}, (w ≤ rwW ν go wd S0 k n ↔ w ≤ S0 n ∨ ∃ l, l < k ∧ go l = true ∧ ν.L l 1 = n ∧ w ≤ wd l ∧ w ≤ S0 (ν.L l 0))
  | 0 => ⟨fun h => Or.inl h, fun h => by rcases h with h | ⟨l, h, -⟩; exact h; omega⟩
  | k + 1 => by
    have ih := rwW_ge (S0 := S0) (w := w) (n := n) (k := k)
    rw [rwW]
    by_cases hc : go k = true ∧ ν.L k 1 = n
    · rw [if_pos hc]
      have hm : w ≤ (if S0 (ν.L k 0) < wd k then S0 (ν.L k 0) else wd k) ↔ w ≤ wd k ∧ w ≤ S0 (ν.L k 0) := by
        split <;> omega
      have hx : w ≤ (if rwW ν go wd S0 k n < (if S0 (ν.L k 0) < wd k then S0 (ν.L k 0) else wd k) then (if S0 (ν.L k 0) < wd k then S0 (ν.L k 0) else wd k) else rwW ν go wd S0 k n) ↔ w ≤ rwW ν go wd S0 k n ∨ (w ≤ wd k ∧ w ≤ S0 (ν.L k 0)) := by
        rw [← hm]
        generalize (if S0 (ν.L k 0) < wd k then S0 (ν.L k 0) else wd k) = m
        split <;> omega
      rw [hx, ih]
      constructor
      · rintro ((h | ⟨l, h1, h2⟩) | h)
        · exact Or.inl h
        · exact Or.inr ⟨l, by omega, h2⟩
        · exact Or.inr ⟨k, by omega, hc.1, hc.2, h⟩
      · rintro (h | ⟨l, h1, h2⟩)
        · exact Or.inl (Or.inl h)
        · by_cases e : l = k
          · subst e; exact Or.inr h2.2.2
          · exact Or.inl (Or.inr ⟨l, by omega, h2⟩)
    · rw [if_neg hc, ih]
      constructor
      · rintro (h | ⟨l, h1, h2⟩)
        · exact Or.inl h
        · exact Or.inr ⟨l, by omega, h2⟩
      · rintro (h | ⟨l, h1, h2⟩)
        · exact Or.inl h
        · by_cases e : l = k
          · subst e; exact absurd ⟨h2.1, h2.2.1⟩ hc
          · exact Or.inr ⟨l, by omega, h2⟩
theorem Wm_ge {w : Int} (h1 : 1 ≤ w) (h2 : w ≤ 1000000) : ∀ {k n : Nat}, (w ≤ Wm ν go wd a k n ↔ rch ν (fun l => go l && decide (w ≤ wd l)) a k n = true)
  | 0, n => by
    rw [Wm, rch, decide_eq_true_eq]
    by_cases e : n = a
    · rw [if_pos e]; exact ⟨fun _ => e, fun _ => h2⟩
    · rw [if_neg e]; exact ⟨fun h => by omega, fun h => absurd h e⟩
  | k + 1, n => by
    rw [Wm, rwW_ge, Wm_ge h1 h2 (k := k), rch, Bool.or_eq_true, List.any_eq_true]
    constructor
    · rintro (h | ⟨l, q1, q2, q3, q4, q5⟩)
      · exact Or.inl h
      · refine Or.inr ⟨l, List.mem_range.mpr q1, ?_⟩
        rw [Wm_ge h1 h2 (k := k)] at q5
        simp [q2, q3, q4, q5]
    · rintro (h | ⟨l, q1, q2⟩)
      · exact Or.inl h
      · rw [Bool.and_eq_true, Bool.and_eq_true, Bool.and_eq_true, decide_eq_true_eq, decide_eq_true_eq] at q2
        exact Or.inr ⟨l, List.mem_range.mp q1, q2.1.1.1, q2.1.2, q2.1.1.2, (Wm_ge h1 h2 (k := k)).mpr q2.2⟩
theorem rwW_bd {S0 : Nat → Int} (hS : ∀ n, 0 ≤ S0 n ∧ S0 n ≤ 1000000) {n : Nat} : ∀ {k : Nat}, 0 ≤ rwW ν go wd S0 k n ∧ rwW ν go wd S0 k n ≤ 1000000
  | 0 => hS n
  | k + 1 => by
    have ih := rwW_bd (S0 := S0) hS (n := n) (k := k)
    have := hS (ν.L k 0)
    rw [rwW]
    split
    · have : (if S0 (ν.L k 0) < wd k then S0 (ν.L k 0) else wd k) ≤ 1000000 := by split <;> omega
      generalize (if S0 (ν.L k 0) < wd k then S0 (ν.L k 0) else wd k) = m at this
      split <;> omega
    · exact ih
theorem Wm_bd : ∀ (k n : Nat), 0 ≤ Wm ν go wd a k n ∧ Wm ν go wd a k n ≤ 1000000
  | 0, n => by rw [Wm]; split <;> omega
  | k + 1, n => by rw [Wm]; exact rwW_bd (Wm_bd k)
theorem rch_off (hg : ∀ l, l < ν.ln → go l = false) : ∀ {k n : Nat}, rch ν go a k n = true → n = a := by
  intro k n h
  obtain ⟨p, h1, h2, -⟩ := rch_sound h
  cases p with
  | nil => exact h1.symm
  | cons l p => exact absurd (h2 l List.mem_cons_self) (by rw [hg l h1.1]; decide)
theorem Wm_99 (hwd : ∀ l, l < ν.ln → wd l ≤ 99) {k n : Nat} (hna : n ≠ a) : Wm ν go wd a k n ≤ 99 := by
  by_cases h : Wm ν go wd a k n ≤ 99
  · exact h
  · have := (Wm_ge (ν := ν) (go := go) (wd := wd) (a := a) (w := 100) (by omega) (by omega) (k := k) (n := n)).mp (by omega)
    exact absurd (rch_off (fun l hl => by have := hwd l hl; simp; intro _; omega) this) hna
/-! the class -/
theorem c_w3 {k1 k3 k4 : Int32} (ha : a < 8) (hN : 100 ≤ N) : ∃ I', mX6_widestOf_3 k1 (nI a) k3 k4 N 0 I = some I' ∧ Fr [33] I I' ∧ ∀ n, n < 8 → I' 33 n = zI (if n = a then 1000000 else 0) := by
  obtain ⟨I', hP, e⟩ := loopP (F := fun n s i => mX6_widestOf_3 k1 (nI a) k3 k4 n i s) (b := 8) (out := id)
    (P := fun k s => Fr [33] I s ∧ ∀ n, n < k → s 33 n = zI (if n = a then 1000000 else 0))
    (fun n s hP => by
      show mX6_widestOf_3 k1 (nI a) k3 k4 (n + 1) (nI 8) s = some s
      rw [mX6_widestOf_3, if_pos (by decide)])
    (fun n k s hk hP => by
      have h8 : ¬ (8 : Int32) ≤ nI k := nI_ge (b := 8) hk (by decide)
      by_cases e : k = a
      · refine ⟨upd2 s 33 k 1000000, ?_, hP.1.u2 (by simp), fun m hm => ?_⟩
        · show mX6_widestOf_3 k1 (nI a) k3 k4 (n + 1) (nI k) s = _
          rw [mX6_widestOf_3, if_neg h8, if_pos (by rw [e]), ck_n (by omega) (by decide), nI_clamp (by omega), nI_1]
        · by_cases hm2 : m = k
          · rw [hm2, u2_at, if_pos e]; rfl
          · rw [u2_ne (by omega)]; exact hP.2 m (by omega)
      · refine ⟨upd2 s 33 k 0, ?_, hP.1.u2 (by simp), fun m hm => ?_⟩
        · show mX6_widestOf_3 k1 (nI a) k3 k4 (n + 1) (nI k) s = _
          rw [mX6_widestOf_3, if_neg h8, if_neg (fun h => e ((nI_eq (by omega) (by omega)).mp h)), ck_n (by omega) (by decide), nI_clamp (by omega), nI_1]
        · by_cases hm2 : m = k
          · rw [hm2, u2_at, if_neg e]; rfl
          · rw [u2_ne (by omega)]; exact hP.2 m (by omega))
    N 0 I (by omega) (by omega) ⟨Fr.rf, fun n hn => by omega⟩
  exact ⟨I', e, hP⟩
theorem c_w82 (hn : WfN ν) {x k3 k4 k6 : Int32} {r : Nat} (hr : r ≤ 6) (hgo : ∀ l, l < ν.ln → go l = bt x l) (hwd : ∀ l, l < ν.ln → -1000 ≤ wd l ∧ wd l ≤ 1000) (S0 : Nat → Int) (hS : ∀ n, 0 ≤ S0 n ∧ S0 n ≤ 1000000) (hN : 100 ≤ N) (hI : NetC ν I) (hw : ∀ l, l < ν.ln → I 31 l = zI (wd l)) (h0 : ∀ n, n < 8 → I 33 (r * 8 + n) = zI (S0 n)) (h1 : ∀ n, n < 8 → I 33 (r * 8 + 8 + n) = zI (S0 n)) :
    ∃ I', mX6_widestOf_82 x k3 k4 (nI (r * 8 + 8)) k6 (nI (r * 8)) N 0 I = some I' ∧ Fr [33] I I' ∧ ∀ n, n < 8 → I' 33 (r * 8 + 8 + n) = zI (rwW ν go wd S0 ν.ln n) := by
  have hln := hn.2.2.1
  have hnn := hn.2.1
  obtain ⟨I', hP, e⟩ := loopP (F := fun n s i => mX6_widestOf_82 x k3 k4 (nI (r * 8 + 8)) k6 (nI (r * 8)) n i s) (b := ν.ln) (out := id)
    (P := fun k s => Fr [33] I s ∧ (∀ j, j < r * 8 + 8 → s 33 j = I 33 j) ∧ ∀ n, n < 8 → s 33 (r * 8 + 8 + n) = zI (rwW ν go wd S0 k n))
    (fun n s hP => by
      show mX6_widestOf_82 x k3 k4 (nI (r * 8 + 8)) k6 (nI (r * 8)) (n + 1) (nI ν.ln) s = some s
      rw [mX6_widestOf_82, (hI.fr hP.1 (by simp)).2.1, if_pos (nI_le (Nat.le_refl _) (by omega))])
    (fun n k s hk hP => by
      have hI' := hI.fr hP.1 (by simp)
      have hL := hn.2.2.2.2.1 k hk
      have e3 : s 3 k = nI (ν.L k 0) := hI'.2.2.2.1 k hk 0 (by decide)
      have e4 : s 4 k = nI (ν.L k 1) := hI'.2.2.2.1 k hk 1 (by decide)
      have e31 : s 31 k = zI (wd k) := by rw [hP.1 31 (by simp)]; exact hw k hk
      have hSk := hS (ν.L k 0)
      have hwk := hwd k hk
      have hrw := rwW_bd (ν := ν) (go := go) (wd := wd) hS (n := ν.L k 1) (k := k)
      have e6 : s 33 (r * 8 + ν.L k 0) = zI (S0 (ν.L k 0)) := by rw [hP.2.1 _ (by omega)]; exact h0 _ (by omega)
      have e7 : s 33 (r * 8 + 8 + ν.L k 1) = zI (rwW ν go wd S0 k (ν.L k 1)) := hP.2.2 _ (by omega)
      have em : (if zI (S0 (ν.L k 0)) < zI (wd k) then zI (S0 (ν.L k 0)) else zI (wd k)) = zI (if S0 (ν.L k 0) < wd k then S0 (ν.L k 0) else wd k) := by
        by_cases h : S0 (ν.L k 0) < wd k
        · rw [if_pos ((zI_lt ⟨by omega, by omega⟩ ⟨by omega, by omega⟩).mpr h), if_pos h]
        · rw [if_neg (fun h' => h ((zI_lt ⟨by omega, by omega⟩ ⟨by omega, by omega⟩).mp h')), if_neg h]
      have hmb : -1000 ≤ (if S0 (ν.L k 0) < wd k then S0 (ν.L k 0) else wd k) ∧ (if S0 (ν.L k 0) < wd k then S0 (ν.L k 0) else wd k) ≤ 1000000 := by split <;> omega
      have key : mX6_widestOf_82 x k3 k4 (nI (r * 8 + 8)) k6 (nI (r * 8)) (n + 1) (nI k) s = if go k = true then mX6_widestOf_82 x k3 k4 (nI (r * 8 + 8)) k6 (nI (r * 8)) n (nI (k + 1)) (upd2 s 33 (r * 8 + 8 + ν.L k 1) (zI (rwW ν go wd S0 (k + 1) (ν.L k 1)))) else mX6_widestOf_82 x k3 k4 (nI (r * 8 + 8)) k6 (nI (r * 8)) n (nI (k + 1)) s := by
        rw [mX6_widestOf_82, hI'.2.1, if_neg (nI_ge hk (by omega)), ck_n (by omega) (by decide), nI_clamp (by omega), e3, e4, nI_add, nI_add, ck_n (by omega) (by decide), ck_n (by omega) (by decide), nI_clamp (by omega), nI_clamp (by omega), e6, e7, e31, nm_n, nm_n, em, nI_1]
        have hg := hgo k hk
        cases hb : bt x k with
        | false => rw [if_pos ((cb0 (by omega) x).mpr hb), if_neg (fun h => by rw [hg, hb] at h; cases h)]
        | true =>
          rw [if_neg (fun h => by rw [(cb0 (by omega) x).mp h] at hb; cases hb), if_pos (hg.trans hb)]
          congr 2
          rw [rwW, if_pos (show go k = true ∧ ν.L k 1 = ν.L k 1 from ⟨hg.trans hb, rfl⟩)]
          generalize (if S0 (ν.L k 0) < wd k then S0 (ν.L k 0) else wd k) = m at hmb
          by_cases h : rwW ν go wd S0 k (ν.L k 1) < m
          · rw [if_pos ((zI_lt ⟨by omega, by omega⟩ ⟨by omega, by omega⟩).mpr h), if_pos h]
          · rw [if_neg (fun h' => h ((zI_lt ⟨by omega, by omega⟩ ⟨by omega, by omega⟩).mp h')), if_neg h]
      by_cases hc : go k = true
      · refine ⟨upd2 s 33 (r * 8 + 8 + ν.L k 1) (zI (rwW ν go wd S0 (k + 1) (ν.L k 1))), by rw [if_pos hc] at key; exact key, hP.1.u2 (by simp), fun j hj => ?_, fun m hm => ?_⟩
        · rw [u2_ne (by omega)]; exact hP.2.1 j hj
        · by_cases hm2 : m = ν.L k 1
          · rw [hm2, u2_at]
          · rw [u2_ne (by omega), rwW, if_neg (fun h => hm2 h.2.symm)]; exact hP.2.2 m hm
      · refine ⟨s, by rw [if_neg hc] at key; exact key, hP.1, hP.2.1, fun m hm => ?_⟩
        rw [rwW, if_neg (fun h => hc h.1)]; exact hP.2.2 m hm)
    N 0 I (by omega) (by omega) ⟨Fr.rf, fun _ _ => rfl, h1⟩
  exact ⟨I', e, hP.1, hP.2.2⟩
set_option maxHeartbeats 2000000 in
theorem c_w41 (hn : WfN ν) {x k3 : Int32} (hh : h ≤ 7) (hgo : ∀ l, l < ν.ln → go l = bt x l) (hwd : ∀ l, l < ν.ln → -1000 ≤ wd l ∧ wd l ≤ 1000) (hN : 100 ≤ N) : ∀ (m n r : Nat) (I : gI), r + m = h → m < n → NetC ν I → (∀ l, l < ν.ln → I 31 l = zI (wd l)) → (∀ k, k < 8 → I 33 (r * 8 + k) = zI (Wm ν go wd a r k)) →
    ∃ I', mX6_widestOf_41 N x k3 (nI h) n (nI (r * 8)) (nI r) I = some (nI (h * 8), I') ∧ Fr [33] I I' ∧ ∀ k, k < 8 → I' 33 (h * 8 + k) = zI (Wm ν go wd a h k) := by
  intro m
  induction m with
  | zero =>
    intro n r I hr hm hI hw h33
    obtain rfl : r = h := by omega
    obtain ⟨n, rfl⟩ : ∃ k, n = k + 1 := ⟨n - 1, by omega⟩
    refine ⟨I, ?_, Fr.rf, h33⟩
    rw [mX6_widestOf_41, if_pos (nI_le (Nat.le_refl _) (by omega))]
  | succ m ih =>
    intro n r I hr hm hI hw h33
    obtain ⟨n, rfl⟩ : ∃ k, n = k + 1 := ⟨n - 1, by omega⟩
    have e88 : nI (r * 8) + 8 = nI (r * 8 + 8) := nI_add _ 8
    have c8 : (8 : Int32).toNatClampNeg = 8 := by decide
    obtain ⟨I1, hI1⟩ : ∃ I1, I1 = updRow I 33 (va_cpy (I 33) (I 33) (r * 8) (r * 8 + 8) 8) := ⟨_, rfl⟩
    have f1 : Fr [33] I I1 := by
      intro c hc
      have h1 : c ≠ 33 := fun e => hc (by rw [e]; simp)
      rw [hI1]
      show (if c = 33 then _ else I c) = _
      rw [if_neg h1]
    have a1 : ∀ j, I1 33 j = if r * 8 + 8 ≤ j ∧ j < r * 8 + 8 + 8 then I 33 (r * 8 + (j - (r * 8 + 8))) else I 33 j := by
      intro j
      rw [hI1]
      show va_cpy (I 33) (I 33) (r * 8) (r * 8 + 8) 8 j = _
      rfl
    have hI1n : NetC ν I1 := hI.fr f1 (by simp)
    obtain ⟨I2, e2, f2, d2⟩ := c_w82 (k3 := k3) (k4 := nI h) (k6 := nI r) (I := I1) hn (show r ≤ 6 by omega) hgo hwd (Wm ν go wd a r) (Wm_bd r) hN hI1n (fun l hl => by rw [f1 31 (by simp)]; exact hw l hl)
      (fun k hk => by rw [a1, if_neg (by omega)]; exact h33 k hk)
      (fun k hk => by rw [a1, if_pos (by omega), show r * 8 + (r * 8 + 8 + k - (r * 8 + 8)) = r * 8 + k by omega]; exact h33 k hk)
    have f12 := f1.tr f2
    obtain ⟨I3, e3, f3, d3⟩ := ih n (r + 1) I2 (by omega) (by omega) (hI.fr f12 (by simp)) (fun l hl => by rw [f12 31 (by simp)]; exact hw l hl) (fun k hk => by rw [show (r + 1) * 8 + k = r * 8 + 8 + k by omega]; exact d2 k hk)
    refine ⟨I3, ?_, f12.tr f3, d3⟩
    rw [mX6_widestOf_41, if_neg (nI_ge (by omega) (by omega)), if_neg (show ¬ (7 : Int32) ≤ nI r from nI_ge (b := 7) (by omega) (by decide)), e88, c8, nI_1]
    rw [show nn (nI (r * 8)) = fun (x : Option (Int32 × gI)) => x from funext fun x => if_neg (nI_pos (by omega)), show nn (nI (r * 8 + 8)) = fun (x : Option (Int32 × gI)) => x from funext fun x => if_neg (nI_pos (by omega))]
    rw [nI_clamp (by omega), nI_clamp (by omega)]
    show lt9 (r * 8 + 8) 64 (lt9 (r * 8 + 8 + 8) 64 _) = _
    unfold lt9
    rw [if_pos (by omega), if_pos (by omega), nm_n, ← hI1, e2, ob_some, show r * 8 + 8 = (r + 1) * 8 by omega]
    exact e3
theorem c_wide (hn : WfN ν) (hI : NetC ν I) {x : Int32} (ha : a < 8) (hz : z < 8) (hh : h ≤ 7) (hgo : ∀ l, l < ν.ln → go l = bt x l) (hwd : ∀ l, l < ν.ln → -1000 ≤ wd l ∧ wd l ≤ 1000) (hN : 100 ≤ N) (hw : ∀ l, l < ν.ln → I 31 l = zI (wd l)) : ∃ I', mX6_widestOf N x (nI a) (nI z) (nI h) I = some (zI (Wm ν go wd a h z), I') ∧ Fr [33] I I' := by
  obtain ⟨I1, e1, f1, d1⟩ := c_w3 (I := I) (k1 := x) (k3 := nI z) (k4 := nI h) ha hN
  obtain ⟨I2, e2, f2, d2⟩ := c_w41 (a := a) (k3 := nI z) hn hh hgo hwd hN h N 0 I1 (by omega) (by omega) (hI.fr f1 (by simp)) (fun l hl => by rw [f1 31 (by simp)]; exact hw l hl) (fun k hk => by rw [Nat.zero_mul, Nat.zero_add, d1 k hk, Wm])
  refine ⟨I2, ?_, f1.tr f2⟩
  unfold mX6_widestOf
  rw [e1, ob_some, show mX6_widestOf_41 N x (nI z) (nI h) N 0 0 I1 = some (nI (h * 8), I2) from e2, ob_some]
  dsimp only
  rw [nI_add, ck_n (by omega) (by decide), nI_clamp (by omega), d2 z hz]
/-! the reference -/
def goF (ν : Nt) (σ : St) (w p l : Nat) : Bool := bt σ.up l && decide ((w : Int) ≤ pl ν σ 99 l p)
theorem m_fnd (hn : WfN ν) (hI : NetM ν I) (hs : MS ν 317 0 σ I) (hw : WfW ν σ) (hN : 100000000000 ≤ N) {w p : Nat} (hw9 : w ≤ 99) (hp : p ≤ 7) (ha : a < ν.nn) (hz : z < ν.nn) (haz : a ≠ z) : ∃ I', FB I I' ∧ mX11_isFoundFor N (nI a) (nI z) (nI w) (nI p) I = some (if rch ν (goF ν σ w p) a 7 z = true then 1 else 0, I') := by
  obtain ⟨I1, e1, f1, g1⟩ := m_pools (N := N) (b := 0) (a := -1) (a5 := nI p) (f := fun _ => 0) (want := w) (shun := 0) (q := fun l => decide ((w : Int) ≤ pl ν σ 99 l p)) hn hI hs hw (by omega) (by omega) (Or.inl ⟨rfl, rfl⟩) hw9 (by omega) (fun l hl => Or.inr ⟨p, hp, rfl, by rw [Int.add_zero]⟩)
  have hI1 := hI.fr f1 (by simp) (by simp) (by simp)
  have g1' : GoM ν (goF ν σ w p) (wdN ν σ) I1 := g1.congr (fun l hl => by unfold goF; simp) (fun l hl => by unfold wdN; rw [if_pos hl]; omega)
  obtain ⟨I2, f2, -, h2⟩ := m_bestw (N := N) (a := a) (z := z) (h := 7) hn hI1 g1' ha hz haz (by omega) (by omega) (wdN_bd hn hw) hN
  refine ⟨I2, (FB.fr f1).tr (FB.fm f2), ?_⟩
  unfold mX11_isFoundFor
  rw [show mX11_laysPools N 0 (-1) (nI w) (nI p) 0 I = some I1 from e1, ob_some, show (7 : Int32) = nI 7 from rfl]
  rcases h2 with ⟨e2, q, hq, -⟩ | ⟨e2, -, hno⟩
  · rw [e2, ob_some, if_pos (rch_isP.mpr ⟨q, hq.1⟩)]
    exact zo_1
  · rw [e2, ob_some, if_neg (fun h => by obtain ⟨q, hq⟩ := rch_isP.mp h; exact hno q hq)]
    exact zo_0
theorem goF_wm {p : Nat} {w : Nat} : goF ν σ w p = fun l => bt σ.up l && decide ((w : Int) ≤ pl ν σ 99 l p) := rfl
/-- the reference's loop, from above -/
theorem m_w55 (hn : WfN ν) (hs : ∀ K, FB I K → NetM ν K ∧ MS ν 317 0 σ K) (hw : WfW ν σ) (hN : 100000000000 ≤ N) {p V : Nat} (hp : p ≤ 7) (ha : a < ν.nn) (hz : z < ν.nn) (haz : a ≠ z) (hV : ∀ w, 1 ≤ w → w ≤ 99 → (rch ν (goF ν σ w p) a 7 z = true ↔ w ≤ V)) : ∀ (w fu : Nat) (K : gI), V ≤ w → w ≤ 99 → w < fu → FB I K → ∃ I', FB I I' ∧ mX11_widest_55 N (nI a) (nI z) (nI p) fu (nI w) K = some (nI V, I')
  | w, 0, K, h1, h2, h3, f => by omega
  | 0, fu + 1, K, h1, h2, h3, f => by
    obtain rfl : V = 0 := by omega
    exact ⟨K, f, by rw [mX11_widest_55, if_pos (by decide)]⟩
  | w + 1, fu + 1, K, h1, h2, h3, f => by
    obtain ⟨I', f', e⟩ := m_fnd (N := N) (w := w + 1) hn (hs K f).1 (hs K f).2 hw hN h2 hp ha hz haz
    have hpos : ¬ nI (w + 1) ≤ 0 := nI_ge (a := 0) (b := w + 1) (by omega) (by omega)
    have hv := hV (w + 1) (by omega) h2
    by_cases hr : rch ν (goF ν σ (w + 1) p) a 7 z = true
    · refine ⟨I', f.tr f', ?_⟩
      rw [mX11_widest_55, if_neg hpos, e, ob_some]
      dsimp only
      rw [if_pos hr, if_neg (show ¬ (1 : Int32) = 0 by decide), show V = w + 1 by have := hv.mp hr; omega]
    · obtain ⟨I2, f2, e2⟩ := m_w55 hn hs hw hN hp ha hz haz hV w fu I' (by
        by_cases h : V = w + 1
        · exact absurd (hv.mpr (by omega)) hr
        · omega) (by omega) (by omega) (f.tr f')
      refine ⟨I2, f2, ?_⟩
      rw [mX11_widest_55, if_neg hpos, e, ob_some]
      dsimp only
      rw [if_neg hr, if_pos (show (0 : Int32) = 0 from rfl), nI_dec, e2]
theorem m_r18 (hn : WfN ν) (hs : ∀ K, FB I K → NetM ν K ∧ MS ν 317 0 σ K) (hw : WfW ν σ) (hN : 100000000000 ≤ N) {t V : Nat} (ht : t < ν.tn) (hV : ∀ w, 1 ≤ w → w ≤ 99 → (rch ν (fit ν σ t w (ν.T t 3)) (ν.T t 0) (ν.T t 6) (ν.T t 1) = true ↔ w ≤ V)) : ∀ (w fu : Nat) (K : gI), V ≤ w → w ≤ 99 → w < fu → FB I K → ∃ I', FB I I' ∧ mX11_room_18 N (nI t) fu (nI w) K = some (nI V, I')
  | w, 0, K, h1, h2, h3, f => by omega
  | 0, fu + 1, K, h1, h2, h3, f => by
    obtain rfl : V = 0 := by omega
    exact ⟨K, f, by rw [mX11_room_18, if_pos (by decide)]⟩
  | w + 1, fu + 1, K, h1, h2, h3, f => by
    obtain ⟨I', q, hq, f', hres⟩ := m_hasBest (N := N) (b := 0) (want := w + 1) hn (hs K f).1 (hs K f).2 hw (by omega) hN ht h2
    have hpos : ¬ nI (w + 1) ≤ 0 := nI_ge (a := 0) (b := w + 1) (by omega) (by omega)
    have hv := hV (w + 1) (by omega) h2
    rw [rch_isP, ← bst_ne hn ht hq] at hv
    rcases hres with ⟨hne, e, -⟩ | ⟨he, e, -⟩
    · refine ⟨I', f.tr f', ?_⟩
      rw [mX11_room_18, if_neg hpos, show mX11_hasBest N 0 (nI t) (nI (w + 1)) K = some (1, I') from e, ob_some]
      dsimp only
      rw [if_neg (show ¬ (1 : Int32) = 0 by decide), show V = w + 1 by have := hv.mp hne; omega]
    · obtain ⟨I2, f2, e2⟩ := m_r18 hn hs hw hN ht hV w fu I' (by
        by_cases h : V = w + 1
        · exact absurd he (hv.mpr (by omega))
        · omega) (by omega) (by omega) (f.tr f')
      refine ⟨I2, f2, ?_⟩
      rw [mX11_room_18, if_neg hpos, show mX11_hasBest N 0 (nI t) (nI (w + 1)) K = some (0, I') from e, ob_some]
      dsimp only
      rw [if_pos (show (0 : Int32) = 0 from rfl), nI_dec, e2]
end Wide
