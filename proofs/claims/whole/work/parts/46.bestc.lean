/-! the class: its rows of spans, its first steps, its best way -/
def orl (v : Int32) : List Nat → Int32
  | [] => v
  | l :: p => orl (v ||| ((1 : Int32) <<< (nI l &&& 31))) p
theorem b_orl {i : Nat} (hi : i < 32) : ∀ (p : List Nat) (v : Int32), (∀ l ∈ p, l < 32) → bt (orl v p) i = (bt v i || decide (i ∈ p))
  | [], v, _ => by simp [orl]
  | l :: p, v, h => by
    rw [orl, b_orl hi p _ (fun x hx => h x (List.mem_cons_of_mem _ hx)), b_or, b_sh1 (h l List.mem_cons_self) hi]
    by_cases h1 : i = l <;> by_cases h2 : i ∈ p <;> simp [h1, h2]
theorem orl_wb {p : List Nat} (h : ∀ l ∈ p, l < 32) : orl 0 p = wb p := b_ext fun i hi => by rw [b_orl hi p 0 h, b_wb hi p h, b_0]; simp
section BestC
variable {ν : Nt} {go : Nat → Bool} {wd : Nat → Int} {I : gI} {N z : Nat}
theorem rwS_bd (hwd : ∀ l, l < ν.ln → -1000 ≤ wd l ∧ wd l ≤ 1000) {D1 D0 : Nat → Nat} {S0 : Nat → Int} (hS : ∀ n, -1000000 ≤ S0 n ∧ S0 n ≤ 1000000) {n : Nat} : ∀ {k : Nat}, k ≤ ν.ln → -1000000 ≤ rwS ν go wd z D1 D0 S0 k n ∧ rwS ν go wd z D1 D0 S0 k n ≤ 1000000
  | 0, _ => by rw [rwS]; split <;> omega
  | k + 1, hk => by
    have ih := rwS_bd hwd hS (D1 := D1) (D0 := D0) (n := n) (k := k) (by omega)
    have h1 := hwd k (by omega)
    have h2 := hS (ν.L k 1)
    have hx : -1000000 ≤ (if S0 (ν.L k 1) < wd k then S0 (ν.L k 1) else wd k) ∧ (if S0 (ν.L k 1) < wd k then S0 (ν.L k 1) else wd k) ≤ 1000000 := by split <;> omega
    rw [rwS]
    generalize (if S0 (ν.L k 1) < wd k then S0 (ν.L k 1) else wd k) = x9 at hx ⊢
    split
    · split
      · exact hx
      · exact ih
    · exact ih
theorem Sp_bd (hwd : ∀ l, l < ν.ln → -1000 ≤ wd l ∧ wd l ≤ 1000) : ∀ (s n : Nat), -1000000 ≤ Sp ν go wd z s n ∧ Sp ν go wd z s n ≤ 1000000
  | 0, n => by rw [Sp]; split <;> omega
  | s + 1, n => rwS_bd hwd (Sp_bd hwd s) (Nat.le_refl _)
theorem zsm {x : Int} (h : -1000000 ≤ x ∧ x ≤ 1000000) : sml x := ⟨by omega, by omega⟩
theorem c_sp26 {k1 k3 k4 : Int32} {s : Nat} (hz : z < 8) (hs : s ≤ 7) (hN : 100 ≤ N) : ∃ I', mX6_spanBestWays_26 k1 (nI z) k3 k4 (nI (s * 8)) N 0 I = some I' ∧ Fr [33] I I' ∧ (∀ j, j < s * 8 → I' 33 j = I 33 j) ∧ ∀ n, n < 8 → I' 33 (s * 8 + n) = zI (if n = z then 1000000 else -1000000) := by
  obtain ⟨I', hP, e⟩ := loopP (F := fun n t i => mX6_spanBestWays_26 k1 (nI z) k3 k4 (nI (s * 8)) n i t) (b := 8) (out := id)
    (P := fun k t => Fr [33] I t ∧ (∀ j, j < s * 8 → t 33 j = I 33 j) ∧ ∀ n, n < k → t 33 (s * 8 + n) = zI (if n = z then 1000000 else -1000000))
    (fun n t _ => by
      show mX6_spanBestWays_26 k1 (nI z) k3 k4 (nI (s * 8)) (n + 1) (nI 8) t = some t
      rw [mX6_spanBestWays_26, if_pos (show (8 : Int32) ≤ nI 8 from nI_le (Nat.le_refl _) (by decide))])
    (fun n k t hk hP => by
      refine ⟨upd2 t 33 (s * 8 + k) (zI (if k = z then 1000000 else -1000000)), ?_, hP.1.u2 (by simp), fun j hj => ?_, fun m hm => ?_⟩
      · show mX6_spanBestWays_26 k1 (nI z) k3 k4 (nI (s * 8)) (n + 1) (nI k) t = mX6_spanBestWays_26 k1 (nI z) k3 k4 (nI (s * 8)) n (nI (k + 1)) _
        rw [mX6_spanBestWays_26, if_neg (show ¬ (8 : Int32) ≤ nI k from nI_ge (b := 8) hk (by decide)), nI_add, ck_n (by omega) (by decide), ck_n (by omega) (by decide), nI_clamp (by omega), nI_1]
        by_cases h : k = z
        · subst h; rw [if_pos rfl, if_pos rfl]; rfl
        · rw [if_neg (fun e => h ((nI_eq (by omega) (by omega)).mp e)), if_neg h]; rfl
      · rw [u2_ne (by omega)]; exact hP.2.1 j hj
      · by_cases h : m = k
        · subst h; exact u2_at
        · rw [u2_ne (by omega)]; exact hP.2.2 m (by omega))
    N 0 I (by omega) (by omega) ⟨Fr.rf, fun _ _ => rfl, fun n hn => by omega⟩
  exact ⟨I', e, hP⟩
set_option maxHeartbeats 4000000 in
theorem c_sp65 (hn : WfN ν) {x k2 k3 : Int32} {s : Nat} (hs : s ≤ 6) (hgo : ∀ l, l < ν.ln → go l = bt x l) (hwd : ∀ l, l < ν.ln → -1000 ≤ wd l ∧ wd l ≤ 1000) (hN : 100 ≤ N) (hI : NetC ν I) (hw : ∀ l, l < ν.ln → I 31 l = zI (wd l))
    (h1 : ∀ n, n < 8 → I 32 ((s + 1) * 8 + n) = nI (Dm ν go z (s + 1) n)) (h0 : ∀ n, n < 8 → I 32 (s * 8 + n) = nI (Dm ν go z s n)) (hS : ∀ n, n < 8 → I 33 (s * 8 + n) = zI (Sp ν go wd z s n)) (hS1 : ∀ n, n < 8 → I 33 ((s + 1) * 8 + n) = zI (if n = z then 1000000 else -1000000)) :
    ∃ I', mX6_spanBestWays_65 x k2 k3 (nI (s + 1)) (nI ((s + 1) * 8)) N 0 I = some I' ∧ Fr [33] I I' ∧ (∀ j, j < (s + 1) * 8 → I' 33 j = I 33 j) ∧ ∀ n, n < 8 → I' 33 ((s + 1) * 8 + n) = zI (Sp ν go wd z (s + 1) n) := by
  have hln := hn.2.2.1
  have hnn := hn.2.1
  obtain ⟨D1, hD1⟩ : ∃ D, D = Dm ν go z (s + 1) := ⟨_, rfl⟩
  obtain ⟨D0, hD0⟩ : ∃ D, D = Dm ν go z s := ⟨_, rfl⟩
  obtain ⟨S0, hS0⟩ : ∃ D, D = Sp ν go wd z s := ⟨_, rfl⟩
  have hDb : ∀ n, D1 n ≤ 1000000 ∧ D0 n ≤ 1000000 := fun n => by rw [hD1, hD0]; exact ⟨Dm_le _, Dm_le _⟩
  have hSb : ∀ n, -1000000 ≤ S0 n ∧ S0 n ≤ 1000000 := fun n => by rw [hS0]; exact Sp_bd hwd s n
  rw [← hD1] at h1
  rw [← hD0] at h0
  rw [← hS0] at hS
  obtain ⟨I', hP, e⟩ := loopP (F := fun n t i => mX6_spanBestWays_65 x k2 k3 (nI (s + 1)) (nI ((s + 1) * 8)) n i t) (b := ν.ln) (out := id)
    (P := fun k t => Fr [33] I t ∧ (∀ j, j < (s + 1) * 8 → t 33 j = I 33 j) ∧ ∀ n, n < 8 → t 33 ((s + 1) * 8 + n) = zI (rwS ν go wd z D1 D0 S0 k n))
    (fun n t hP => by
      show mX6_spanBestWays_65 x k2 k3 (nI (s + 1)) (nI ((s + 1) * 8)) (n + 1) (nI ν.ln) t = some t
      rw [mX6_spanBestWays_65, (hI.fr hP.1 (by simp)).2.1, if_pos (nI_le (Nat.le_refl _) (by omega))])
    (fun n k t hk hP => by
      have hI' := hI.fr hP.1 (by simp)
      have hL := hn.2.2.2.2.1 k hk
      have e3 : t 3 k = nI (ν.L k 0) := hI'.2.2.2.1 k hk 0 (by decide)
      have e4 : t 4 k = nI (ν.L k 1) := hI'.2.2.2.1 k hk 1 (by decide)
      have e5 : t 5 k = nI (ν.L k 2) := hI'.2.2.2.1 k hk 2 (by decide)
      have e31 : t 31 k = zI (wd k) := by rw [hP.1 31 (by simp)]; exact hw k hk
      have e32a : t 32 ((s + 1) * 8 + ν.L k 0) = nI (D1 (ν.L k 0)) := by rw [hP.1 32 (by simp)]; exact h1 _ (by omega)
      have e32b : t 32 (s * 8 + ν.L k 1) = nI (D0 (ν.L k 1)) := by rw [hP.1 32 (by simp)]; exact h0 _ (by omega)
      have e33a : t 33 ((s + 1) * 8 + ν.L k 0) = zI (rwS ν go wd z D1 D0 S0 k (ν.L k 0)) := hP.2.2 _ (by omega)
      have e33b : t 33 (s * 8 + ν.L k 1) = zI (S0 (ν.L k 1)) := by rw [hP.2.1 _ (by omega)]; exact hS _ (by omega)
      have hb1 := hDb (ν.L k 0)
      have hb2 := hDb (ν.L k 1)
      have hb3 := hSb (ν.L k 1)
      have hb4 := rwS_bd (go := go) (z := z) hwd hSb (D1 := D1) (D0 := D0) (n := ν.L k 0) (k := k) (by omega)
      have hb5 := hwd k hk
      have e8 : nI ((s + 1) * 8) - 8 = nI (s * 8) := by
        have := nI_sub (a := (s + 1) * 8) (b := 8) (by omega)
        rw [show (s + 1) * 8 - 8 = s * 8 by omega] at this
        exact this
      have g := hgo k hk
      obtain ⟨mn, hmn⟩ : ∃ y : Int, y = (if S0 (ν.L k 1) < wd k then S0 (ν.L k 1) else wd k) := ⟨_, rfl⟩
      have hmb : -1000000 ≤ mn ∧ mn ≤ 1000000 := by rw [hmn]; split <;> omega
      have key : mX6_spanBestWays_65 x k2 k3 (nI (s + 1)) (nI ((s + 1) * 8)) (n + 1) (nI k) t = if go k = true ∧ D1 (ν.L k 0) < 1000000 ∧ D1 (ν.L k 0) = ν.L k 2 + D0 (ν.L k 1) then mX6_spanBestWays_65 x k2 k3 (nI (s + 1)) (nI ((s + 1) * 8)) n (nI (k + 1)) (upd2 t 33 ((s + 1) * 8 + ν.L k 0) (zI (if rwS ν go wd z D1 D0 S0 k (ν.L k 0) < mn then mn else rwS ν go wd z D1 D0 S0 k (ν.L k 0)))) else mX6_spanBestWays_65 x k2 k3 (nI (s + 1)) (nI ((s + 1) * 8)) n (nI (k + 1)) t := by
        rw [mX6_spanBestWays_65, hI'.2.1, if_neg (nI_ge hk (by omega)), if_neg (nI_nle (by omega) (by omega)), ck_n (by omega) (by decide), nI_clamp (by omega), e3, e4, e5, e31, e8, nI_add, nI_add, ck_n (by omega) (by decide), nI_clamp (by omega), nI_clamp (by omega), e32a, e32b, e33a, e33b, nI_add, nI_1, nm_n, ck_n (by omega) (by decide)]
        have hmin : (if zI (S0 (ν.L k 1)) < zI (wd k) then zI (S0 (ν.L k 1)) else zI (wd k)) = zI mn := by
          rw [hmn]
          by_cases hc : S0 (ν.L k 1) < wd k
          · rw [if_pos ((zI_lt (zsm hb3) ⟨by omega, by omega⟩).mpr hc), if_pos hc]
          · rw [if_neg (fun h => hc ((zI_lt (zsm hb3) ⟨by omega, by omega⟩).mp h)), if_neg hc]
        have hmax : (if zI (rwS ν go wd z D1 D0 S0 k (ν.L k 0)) < zI mn then zI mn else zI (rwS ν go wd z D1 D0 S0 k (ν.L k 0))) = zI (if rwS ν go wd z D1 D0 S0 k (ν.L k 0) < mn then mn else rwS ν go wd z D1 D0 S0 k (ν.L k 0)) := by
          by_cases hc : rwS ν go wd z D1 D0 S0 k (ν.L k 0) < mn
          · rw [if_pos ((zI_lt (zsm hb4) (zsm hmb)).mpr hc), if_pos hc]
          · rw [if_neg (fun h => hc ((zI_lt (zsm hb4) (zsm hmb)).mp h)), if_neg hc]
        rw [hmin, nm_n, hmax, nm_n]
        by_cases c1 : D1 (ν.L k 0) < 1000000
        · rw [if_neg (show ¬ (1000000 : Int32) ≤ nI (D1 (ν.L k 0)) from nI_ge (b := 1000000) c1 (by decide))]
          by_cases c2 : D1 (ν.L k 0) = ν.L k 2 + D0 (ν.L k 1)
          · rw [if_pos (by rw [c2]), ob_some, if_neg (by decide)]
            cases hb : bt x k with
            | false => rw [if_pos ((cb0 (by omega) x).mpr hb), if_neg (fun h => by rw [g, hb] at h; cases h.1)]
            | true =>
              rw [if_neg (fun h => by rw [(cb0 (by omega) x).mp h] at hb; cases hb), ck_n (by omega) (by decide)]
              exact (if_pos ⟨g.trans hb, c1, c2⟩).symm
          · rw [if_neg (fun h => c2 ((nI_eq (by omega) (by omega)).mp h)), ob_some, if_pos rfl, if_neg (fun h => c2 h.2.2)]
        · rw [if_pos (show (1000000 : Int32) ≤ nI (D1 (ν.L k 0)) from nI_le (a := 1000000) (by omega) (by omega)), ob_some, if_pos rfl, if_neg (fun h => c1 h.2.1)]
      by_cases hc : go k = true ∧ D1 (ν.L k 0) < 1000000 ∧ D1 (ν.L k 0) = ν.L k 2 + D0 (ν.L k 1)
      · refine ⟨_, by rw [if_pos hc] at key; exact key, hP.1.u2 (by simp), fun j hj => ?_, fun m hm => ?_⟩
        · show upd2 t 33 _ _ 33 j = _
          rw [u2_ne (by omega)]; exact hP.2.1 j hj
        · show upd2 t 33 ((s + 1) * 8 + ν.L k 0) _ 33 ((s + 1) * 8 + m) = _
          by_cases hm2 : m = ν.L k 0
          · rw [hm2, u2_at, hmn, rwS]
            exact congrArg zI (if_pos ⟨hc.1, rfl, hc.2⟩).symm
          · rw [u2_ne (by omega), rwS, if_neg (fun h => hm2 h.2.1.symm)]; exact hP.2.2 m hm
      · refine ⟨t, by rw [if_neg hc] at key; exact key, hP.1, hP.2.1, fun m hm => ?_⟩
        rw [rwS, if_neg (fun h => hc ⟨h.1, by rw [h.2.1]; exact h.2.2⟩)]; exact hP.2.2 m hm)
    N 0 I (by omega) (by omega) ⟨Fr.rf, fun _ _ => rfl, hS1⟩
  refine ⟨I', e, hP.1, hP.2.1, fun n hn' => ?_⟩
  rw [hP.2.2 n hn', Sp, hD1, hD0, hS0]
set_option maxHeartbeats 1000000 in
theorem c_sp (hn : WfN ν) {x : Int32} {s r : Nat} (hz : z < 8) (hs : s ≤ r) (hr : r ≤ 7) (hgo : ∀ l, l < ν.ln → go l = bt x l) (hwd : ∀ l, l < ν.ln → -1000 ≤ wd l ∧ wd l ≤ 1000) (hN : 100 ≤ N) (hI : NetC ν I) (hw : ∀ l, l < ν.ln → I 31 l = zI (wd l))
    (h32 : ∀ j, j ≤ r → ∀ k, k < 8 → I 32 (j * 8 + k) = nI (Dm ν go z j k)) :
    ∃ I', mX6_spanBestWays N x (nI z) (nI s) I = some I' ∧ Fr [33] I I' ∧ ∀ j, j ≤ s → ∀ n, n < 8 → I' 33 (j * 8 + n) = zI (Sp ν go wd z j n) := by
  obtain ⟨I', hP, e⟩ := loopP (F := fun n t i => mX6_spanBestWays_3 N x (nI z) (nI s) n i t) (b := s + 1) (out := id)
    (P := fun k t => Fr [33] I t ∧ ∀ j, j < k → ∀ n, n < 8 → t 33 (j * 8 + n) = zI (Sp ν go wd z j n))
    (fun n t _ => by
      show mX6_spanBestWays_3 N x (nI z) (nI s) (n + 1) (nI (s + 1)) t = some t
      rw [mX6_spanBestWays_3, if_pos (nI_lt (Nat.lt_succ_self _) (by omega))])
    (fun n k t hk hP => by
      have e8 : nI k * 8 = nI (k * 8) := nI_mul k 8
      obtain ⟨I1, e1, f1, b1, d1⟩ := c_sp26 (I := t) (k1 := x) (k3 := nI s) (k4 := nI k) hz (show k ≤ 7 by omega) hN
      have f1' := hP.1.tr f1
      have unf : ∀ I2, mX6_spanBestWays_65 x (nI z) (nI s) (nI k) (nI (k * 8)) N 0 I1 = some I2 → mX6_spanBestWays_3 N x (nI z) (nI s) (n + 1) (nI k) t = mX6_spanBestWays_3 N x (nI z) (nI s) n (nI (k + 1)) I2 := by
        intro I2 e2
        rw [mX6_spanBestWays_3, if_neg (nI_nlt (by omega) (by omega)), if_neg (show ¬ (7 : Int32) < nI k from nI_nlt (b := k) (a := 7) (by omega) (by decide)), e8, e1, ob_some, e2, ob_some, nI_1]
      cases k with
      | zero =>
        obtain ⟨N', rfl⟩ : ∃ m, N = m + 1 := ⟨N - 1, by omega⟩
        refine ⟨I1, unf I1 ?_, f1', fun j hj m hm => ?_⟩
        · rw [mX6_spanBestWays_65]
          split
          · rfl
          · rw [if_pos (show nI 0 ≤ 0 from nI_le (Nat.le_refl 0) (by decide))]
        · obtain rfl : j = 0 := by omega
          rw [d1 m hm, Sp]
      | succ k =>
        obtain ⟨I2, e2, f2, b2, d2⟩ := c_sp65 (I := I1) (k2 := nI z) (k3 := nI s) hn (show k ≤ 6 by omega) hgo hwd hN (hI.fr f1' (by simp)) (fun l hl => by rw [f1' 31 (by simp)]; exact hw l hl) (fun m hm => by rw [f1' 32 (by simp)]; exact h32 _ (by omega) m hm) (fun m hm => by rw [f1' 32 (by simp)]; exact h32 _ (by omega) m hm) (fun m hm => by rw [b1 _ (by omega)]; exact hP.2 k (by omega) m hm) d1
        refine ⟨I2, unf I2 e2, f1'.tr f2, fun j hj m hm => ?_⟩
        by_cases hjk : j = k + 1
        · subst hjk; exact d2 m hm
        · rw [b2 _ (by omega), b1 _ (by omega)]; exact hP.2 j (by omega) m hm)
    N 0 I (by omega) (by omega) ⟨Fr.rf, fun j hj => by omega⟩
  refine ⟨I', ?_, hP.1, fun j hj => hP.2 j (by omega)⟩
  unfold mX6_spanBestWays
  rw [show mX6_spanBestWays_3 N x (nI z) (nI s) N 0 I = some I' from e, ob_some]
set_option maxHeartbeats 2000000 in
/-- the first step -/
theorem c_fs (hn : WfN ν) {x : Int32} {s n : Nat} {W : Int} (hs : s ≤ 6) (hn8 : n < 8) (hW : -1000000 ≤ W ∧ W ≤ 1000000) (hgo : ∀ l, l < ν.ln → go l = bt x l) (hwd : ∀ l, l < ν.ln → -1000 ≤ wd l ∧ wd l ≤ 1000) (hN : 100 ≤ N) (hI : NetC ν I) (hw : ∀ l, l < ν.ln → I 31 l = zI (wd l))
    (h1 : ∀ n, n < 8 → I 32 ((s + 1) * 8 + n) = nI (Dm ν go z (s + 1) n)) (h0 : ∀ n, n < 8 → I 32 (s * 8 + n) = nI (Dm ν go z s n)) (hS : ∀ n, n < 8 → I 33 (s * 8 + n) = zI (Sp ν go wd z s n)) :
    (mX6_firstStep N x (nI n) (nI (s + 1)) (zI W) I = some (-1) ∧ ∀ l, l < ν.ln → ¬ stp ν go wd z s n W l) ∨ ∃ l, l < ν.ln ∧ mX6_firstStep N x (nI n) (nI (s + 1)) (zI W) I = some (nI l) ∧ stp ν go wd z s n W l ∧ ∀ l', l' < l → ¬ stp ν go wd z s n W l' := by
  have hln := hn.2.2.1
  have hnn := hn.2.1
  have e8 : nI (s + 1) * 8 = nI ((s + 1) * 8) := nI_mul _ 8
  have em : nI (s + 1) - 1 = nI s := nI_pred s
  have e8' : nI s * 8 = nI (s * 8) := nI_mul _ 8
  have hL := loopR (F := fun m (_ : Unit) i => mX6_firstStep_11 x (nI n) (nI (s + 1)) (zI W) (nI ((s + 1) * 8 + n)) I m i) (b := ν.ln) (out := fun _ => Sum.inl ()) (Qr := fun r => ∃ l, l < ν.ln ∧ r = .inr (nI l) ∧ stp ν go wd z s n W l ∧ ∀ l', l' < l → ¬ stp ν go wd z s n W l')
    (P := fun k _ => ∀ l', l' < k → ¬ stp ν go wd z s n W l')
    (fun m _ _ => by
      show mX6_firstStep_11 x (nI n) (nI (s + 1)) (zI W) (nI ((s + 1) * 8 + n)) I (m + 1) (nI ν.ln) = _
      rw [mX6_firstStep_11, hI.2.1, if_pos (nI_le (Nat.le_refl _) (by omega))])
    (fun m k t hk hP => by
      have hLk := hn.2.2.2.2.1 k hk
      have e3 : I 3 k = nI (ν.L k 0) := hI.2.2.2.1 k hk 0 (by decide)
      have e4 : I 4 k = nI (ν.L k 1) := hI.2.2.2.1 k hk 1 (by decide)
      have e5 : I 5 k = nI (ν.L k 2) := hI.2.2.2.1 k hk 2 (by decide)
      have hb1 := Dm_le (ν := ν) (go := go) (z := z) (n := n) (s + 1)
      have hb2 := Dm_le (ν := ν) (go := go) (z := z) (n := ν.L k 1) s
      have hb3 := Sp_bd (go := go) (z := z) hwd s (ν.L k 1)
      have hb5 := hwd k hk
      have g := hgo k hk
      have key : mX6_firstStep_11 x (nI n) (nI (s + 1)) (zI W) (nI ((s + 1) * 8 + n)) I (m + 1) (nI k) = (if go k = true ∧ ν.L k 0 = n ∧ W ≤ wd k ∧ W ≤ Sp ν go wd z s (ν.L k 1) ∧ Dm ν go z (s + 1) n = ν.L k 2 + Dm ν go z s (ν.L k 1) then some (.inr (nI k)) else mX6_firstStep_11 x (nI n) (nI (s + 1)) (zI W) (nI ((s + 1) * 8 + n)) I m (nI (k + 1))) := by
        rw [mX6_firstStep_11, hI.2.1, if_neg (nI_ge hk (by omega)), ck_n (by omega) (by decide), nI_clamp (by omega), e3, e4, e5, hw k hk, em, e8', nI_add, nI_clamp (by omega), nI_clamp (by omega), hS _ (by omega), h1 _ hn8, h0 _ (by omega), nI_1, nm_n, nm_n, nI_add, ck_n (by omega) (by decide), ck_n (by omega) (by decide), ck_n (by omega) (by decide)]
        by_cases c1 : go k = true
        · rw [if_neg (fun h => by rw [g, (cb0 (by omega) x).mp h] at c1; cases c1)]
          by_cases c2 : ν.L k 0 = n
          · rw [if_pos (by rw [c2]), ob_some]
            by_cases c3 : W ≤ wd k
            · rw [if_neg (fun h => by rw [zI_lt ⟨by omega, by omega⟩ (zsm hW)] at h; omega)]
              by_cases c4 : W ≤ Sp ν go wd z s (ν.L k 1)
              · rw [if_neg (fun h => by rw [zI_lt (zsm hb3) (zsm hW)] at h; omega), ob_some, if_neg (by decide), if_neg (by decide)]
                by_cases c5 : Dm ν go z (s + 1) n = ν.L k 2 + Dm ν go z s (ν.L k 1)
                · rw [if_pos (by rw [c5]), if_pos ⟨c1, c2, c3, c4, c5⟩]
                · rw [if_neg (fun h => c5 ((nI_eq (by omega) (by omega)).mp h)), if_neg (fun h => c5 h.2.2.2.2)]
              · rw [if_pos (by rw [zI_lt (zsm hb3) (zsm hW)]; omega), ob_some, if_neg (by decide), if_pos rfl, if_neg (fun h => c4 h.2.2.2.1)]
            · rw [if_pos (by rw [zI_lt ⟨by omega, by omega⟩ (zsm hW)]; omega), ob_some, if_neg (by decide), if_pos rfl, if_neg (fun h => c3 h.2.2.1)]
          · rw [if_neg (fun h => c2 ((nI_eq (by omega) (by omega)).mp h)), ob_some]
            refine Eq.trans ?_ (if_neg (fun h => c2 h.2.1)).symm
            split
            · rw [ob_some, if_pos rfl]
            · split <;> rw [ob_some, if_pos rfl]
        · rw [if_pos ((cb0 (by omega) x).mpr (by rw [← g]; cases hh : go k with | true => exact absurd hh c1 | false => rfl)), ob_some]
          refine Eq.trans ?_ (if_neg (fun h => c1 h.1)).symm
          split
          · rw [ob_some, if_pos rfl]
          · split <;> rw [ob_some, if_pos rfl]
      by_cases hc : stp ν go wd z s n W k
      · exact Or.inr ⟨_, by rw [key]; exact if_pos hc, k, hk, rfl, hc, hP⟩
      · refine Or.inl ⟨(), by show mX6_firstStep_11 _ _ _ _ _ _ (m + 1) (nI k) = _; rw [key]; exact if_neg hc, fun l' hl' => ?_⟩
        by_cases he : l' = k
        · subst he; exact hc
        · exact hP l' (by omega))
    N 0 () (Nat.zero_le _) (by omega) (fun l' h => by omega)
  unfold mX6_firstStep
  rw [e8, nI_add]
  rcases hL with ⟨-, hP, e⟩ | ⟨r, e, l, hl, rfl, h2, h3⟩
  · refine Or.inl ⟨?_, hP⟩
    rw [show mX6_firstStep_11 x (nI n) (nI (s + 1)) (zI W) (nI ((s + 1) * 8 + n)) I N 0 = _ from e, lb_l]
  · refine Or.inr ⟨l, hl, ?_, h2, h3⟩
    rw [show mX6_firstStep_11 x (nI n) (nI (s + 1)) (zI W) (nI ((s + 1) * 8 + n)) I N 0 = _ from e, lb_r]
end BestC
