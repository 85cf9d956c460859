/-! the class: the best way of a tunnel -/
theorem nI_dec (s : Nat) : nI (s + 1) + (-1) = nI s := by
  rw [← zI_nat, ← zI_nat, show (-1 : Int32) = zI (-1) from rfl, zI_add]
  congr 1
  omega
/-- what of a tunnel's links fits -/
def fit (ν : Nt) (σ : St) (t bd p l : Nat) : Bool := opn ν σ t l && decide ((bd : Int) ≤ pl ν σ t l p)
section BestW
variable {ν : Nt} {go : Nat → Bool} {wd : Nat → Int} {σ : St} {I : gI} {N u z : Nat}
theorem c_b23 {k1 k3 : Int32} {a r M : Nat} (ha : a < 8) (hr : r ≤ 7) (hM : M < 2147483648) (hN : 100 ≤ N) (h30 : I 30 6 = nI r) (h32 : ∀ j, j ≤ r → ∀ k, k < 8 → I 32 (j * 8 + k) = nI (Dm ν go z j k)) (hMr : Dm ν go z r a = M) :
    ∃ s, s ≤ r ∧ mX6_bestOf_23 k1 (nI a) k3 (nI M) I N 0 = some (nI s) ∧ (∀ k, k < s → Dm ν go z k a ≠ M) ∧ Dm ν go z s a = M := by
  rcases loopR (F := fun m (_ : Unit) i => mX6_bestOf_23 k1 (nI a) k3 (nI M) I m i) (b := r) (out := fun _ => nI r) (Qr := fun x => ∃ s, s ≤ r ∧ x = nI s ∧ (∀ k, k < s → Dm ν go z k a ≠ M) ∧ Dm ν go z s a = M)
    (P := fun k _ => ∀ j, j < k → Dm ν go z j a ≠ M)
    (fun m _ _ => by
      show mX6_bestOf_23 k1 (nI a) k3 (nI M) I (m + 1) (nI r) = _
      rw [mX6_bestOf_23, h30, if_pos (nI_le (Nat.le_refl _) (by omega))])
    (fun m k _ hk hP => by
      have e8 : nI k * 8 = nI (k * 8) := nI_mul k 8
      have hb := Dm_le (ν := ν) (go := go) (z := z) (n := a) k
      have key : mX6_bestOf_23 k1 (nI a) k3 (nI M) I (m + 1) (nI k) = if Dm ν go z k a = M then some (nI k) else mX6_bestOf_23 k1 (nI a) k3 (nI M) I m (nI (k + 1)) := by
        rw [mX6_bestOf_23, h30, if_neg (nI_ge hk (by omega)), e8, nI_add, ck_n (by omega) (by decide), nI_clamp (by omega), h32 k (by omega) a ha, nI_1]
        by_cases hc : Dm ν go z k a = M
        · rw [if_pos (by rw [hc]), if_pos hc]
        · rw [if_neg (fun h => hc ((nI_eq (by omega) hM).mp h)), if_neg hc]
      by_cases hc : Dm ν go z k a = M
      · exact Or.inr ⟨_, by show mX6_bestOf_23 _ _ _ _ _ (m + 1) (nI k) = _; rw [key, if_pos hc], k, by omega, rfl, hP, hc⟩
      · refine Or.inl ⟨(), by show mX6_bestOf_23 _ _ _ _ _ (m + 1) (nI k) = _; rw [key, if_neg hc], fun j hj => ?_⟩
        by_cases he : j = k
        · subst he; exact hc
        · exact hP j (by omega))
    N 0 () (Nat.zero_le _) (by omega) (fun j h => by omega) with ⟨-, hP, e⟩ | ⟨x, e, s, h1, rfl, h2, h3⟩
  · exact ⟨r, Nat.le_refl _, e, hP, hMr⟩
  · exact ⟨s, h1, e, h2, h3⟩
theorem c_b87 (hn : WfN ν) {x : Int32} {S : Nat} {W : Int} (hS7 : S ≤ 7) (hW : -1000000 < W ∧ W ≤ 1000000) (hgo : ∀ l, l < ν.ln → go l = bt x l) (hwd : ∀ l, l < ν.ln → -1000 ≤ wd l ∧ wd l ≤ 1000) (hN : 100 ≤ N) (hI : NetC ν I) (hw : ∀ l, l < ν.ln → I 31 l = zI (wd l))
    (h32 : ∀ j, j ≤ S → ∀ n, n < 8 → I 32 (j * 8 + n) = nI (Dm ν go z j n)) (hS : ∀ j, j ≤ S → ∀ n, n < 8 → I 33 (j * 8 + n) = zI (Sp ν go wd z j n)) :
    ∀ (s n m : Nat) (v : Int32), s ≤ S → n < 8 → s < m → W ≤ Sp ν go wd z s n → (∀ k, s = k + 1 → Dm ν go z (k + 1) n < Dm ν go z k n) → ∃ p, grd ν go wd z W s n p ∧ mX6_bestOf_87 N x (zI W) I m v (nI n) (nI s) = some (.inl (orl v p)) := by
  intro s
  induction s with
  | zero =>
    intro n m v _ _ hm _ _
    obtain ⟨m, rfl⟩ : ∃ k, m = k + 1 := ⟨m - 1, by omega⟩
    exact ⟨[], rfl, by rw [mX6_bestOf_87, if_pos (show nI 0 ≤ 0 from nI_le (Nat.le_refl 0) (by decide))]; rfl⟩
  | succ s ih =>
    intro n m v hs hn8 hm hWS hst
    obtain ⟨m, rfl⟩ : ∃ k, m = k + 1 := ⟨m - 1, by omega⟩
    have hln := hn.2.2.1
    have hnn := hn.2.1
    have hstr := hst s rfl
    obtain ⟨l0, hl0, hst0⟩ := stp_ex hW.1 hWS hstr
    rcases c_fs (I := I) (N := N) (x := x) (s := s) (n := n) (W := W) hn (by omega) hn8 ⟨by omega, hW.2⟩ hgo hwd hN hI hw (h32 (s + 1) hs) (h32 s (by omega)) (hS s (by omega)) with ⟨-, h⟩ | ⟨l, hl, e, h1, h2⟩
    · exact absurd hst0 (h l0 hl0)
    · have hLl := hn.2.2.2.2.1 l hl
      obtain ⟨q, hq, eq⟩ := ih (ν.L l 1) m (v ||| ((1 : Int32) <<< (nI l &&& 31))) (by omega) (by omega) (by omega) h1.2.2.2.1 (fun k hk => by subst hk; exact stp_strict hl h1 hstr)
      refine ⟨l :: q, ⟨l, q, rfl, hl, h1, h2, hq⟩, ?_⟩
      rw [mX6_bestOf_87, if_neg (nI_nle (by omega) (by omega)), e, ob_some, if_neg (nI_m1 (by omega)), ck_n (by omega) (by decide), nI_clamp (by omega), show I 4 l = nI (ν.L l 1) from hI.2.2.2.1 l hl 1 (by decide), nI_dec]
      exact eq
set_option maxHeartbeats 1000000 in
theorem c_best (hn : WfN ν) (hI : NetC ν I) {x : Int32} {a h : Nat} (ha : a < 8) (hz : z < 8) (haz : a ≠ z) (hh : h ≤ 7) (hgo : ∀ l, l < ν.ln → go l = bt x l) (hwd : ∀ l, l < ν.ln → -1000 ≤ wd l ∧ wd l ≤ 1000) (hN : 100 ≤ N) (hw : ∀ l, l < ν.ln → I 31 l = zI (wd l)) :
    ∃ I' res, mX6_bestOf N x (nI a) (nI z) (nI h) I = some (res, I') ∧ Fr [30, 32, 33] I I' ∧ ((∃ p, isB ν go wd a z h p ∧ res = wb p) ∨ (res = 0 ∧ ∀ p, ¬ IsP ν go a z h p)) := by
  obtain ⟨I1, r, e1, f1, hr, h30, h32, hDr⟩ := c_lm (go := go) hn hI ha hz hh hgo hN
  have hb := Dm_le (ν := ν) (go := go) (z := z) (n := a) h
  unfold mX6_bestOf
  rw [e1, ob_some]
  by_cases hfar : Dm ν go z h a < 1000000
  · obtain ⟨s, hs, e2, hmin, hDs⟩ := c_b23 (k1 := x) (k3 := nI z) ha (by omega) (show Dm ν go z h a < 2147483648 by omega) hN h30 h32 (hDr a ha)
    obtain ⟨I2, e3, f3, h33⟩ := c_sp (wd := wd) (I := I1) hn hz hs (by omega) hgo hwd hN (hI.fr f1 (by simp)) (fun l hl => by rw [f1 31 (by simp)]; exact hw l hl) h32
    have f2 : Fr [30, 32, 33] I I2 := (f1.mono (by simp)).tr (f3.mono (by simp))
    have hSb := Sp_bd (go := go) (z := z) hwd s a
    have hs0 : s ≠ 0 := by
      intro e
      subst e
      rw [Dm, if_neg haz] at hDs
      omega
    have hstrict : ∀ k, s = k + 1 → Dm ν go z (k + 1) a < Dm ν go z k a := by
      intro k e
      have h1 := hmin k (by omega)
      have h2 := Dm_mono (ν := ν) (go := go) (z := z) (n := a) k
      subst e
      omega
    have hW : -1000000 < Sp ν go wd z s a := by
      obtain ⟨q, q1, q2, q3, q4⟩ := Dm_ex (ν := ν) (go := go) (z := z) (r := s) (a := a) (by omega)
      have h1 := Sp_walk (wd := wd) hn q1 q2 q3 q4 (by omega)
      have h2 := mw_ge (wd := wd) (B := -1000) (by omega) (p := q) (fun l hl => (hwd l (chn_lt q1 l hl)).1)
      omega
    obtain ⟨p, hp, e4⟩ := c_b87 (I := I2) (N := N) (x := x) hn (show s ≤ 7 by omega) ⟨hW, hSb.2⟩ hgo hwd hN (hI.fr f2 (by simp)) (fun l hl => by rw [f2 31 (by simp)]; exact hw l hl) (fun j hj n hn8 => by rw [f3 32 (by simp)]; exact h32 j (by omega) n hn8) h33 s a N 0 (Nat.le_refl _) ha (by omega) (Int.le_refl _) hstrict
    have hB := grd_best (h := h) hn (fun l hl => (hwd l hl).1) haz (by omega) hfar hDs hmin hp hSb.2
    refine ⟨I2, wb p, ?_, f2, Or.inl ⟨p, hB, rfl⟩⟩
    have e8 : nI s * 8 = nI (s * 8) := nI_mul s 8
    have hln := hn.2.2.1
    show (if nI (Dm ν go z h a) < 1000000 then _ else _) = _
    rw [if_pos (show nI (Dm ν go z h a) < 1000000 from nI_lt (b := 1000000) hfar (by decide)), e2, ob_some, e3, ob_some, e8, nI_add, ck_n (by omega) (by decide), nI_clamp (by omega), h33 s (Nat.le_refl _) a ha, e4, lb_l, orl_wb (fun l hl => by have := chn_lt hB.1.1 l hl; omega)]
  · refine ⟨I1, 0, ?_, f1.mono (by simp), Or.inr ⟨rfl, fun p hp => ?_⟩⟩
    · show (if nI (Dm ν go z h a) < 1000000 then _ else _) = _
      rw [if_neg (show ¬ nI (Dm ν go z h a) < 1000000 from nI_nlt (b := 1000000) (by omega) (by omega))]
    · have h1 := Dm_walk hp.1 hp.2.2.2 hp.2.2.1
      have h2 := mt_le hn (chn_lt hp.1)
      have h3 := hp.2.2.1
      omega
/-! which links are open, which fit -/
theorem nand_le {a b : Nat} (ha : a ≤ 15) : a &&& b ≤ 15 := Nat.le_trans Nat.and_le_left ha
theorem c_open (hn : WfN ν) (hI : NetC ν I) (hs : I u 2 = σ.up) (hN : 100 ≤ N) {t : Nat} (ht : t < ν.tn) : ∃ x, mX2_openTo N u (nI t) I = some x ∧ ∀ i, i < 32 → bt x i = (decide (i < ν.ln) && opn ν σ t i) := by
  have hln := hn.2.2.1
  have htn := hn.2.2.2.1
  obtain ⟨x, hP, e⟩ := loopP (F := fun n v i => mX2_openTo_4 u (nI t) I n v i) (b := ν.ln) (out := id)
    (P := fun k v => ∀ i, i < 32 → bt v i = (decide (i < k) && opn ν σ t i))
    (fun n v _ => by
      show mX2_openTo_4 u (nI t) I (n + 1) v (nI ν.ln) = some v
      rw [mX2_openTo_4, hI.2.1, if_pos (nI_le (Nat.le_refl _) (by omega))])
    (fun n k v hk hP => by
      have e7 : I 7 k = nI (ν.L k 4) := hI.2.2.2.1 k hk 4 (by decide)
      have e13 : I 13 t = nI (ν.T t 5) := hI.2.2.2.2 t ht 5 (by decide)
      have hL := hn.2.2.2.2.1 k hk
      have hle := nand_le (b := ν.T t 5) hL.2.2.2.2.2.2.2
      have key : mX2_openTo_4 u (nI t) I (n + 1) v (nI k) = if ν.L k 4 &&& ν.T t 5 = 0 then mX2_openTo_4 u (nI t) I n (v ||| (σ.up &&& ((1 : Int32) <<< (nI k &&& 31)))) (nI (k + 1)) else mX2_openTo_4 u (nI t) I n v (nI (k + 1)) := by
        rw [mX2_openTo_4, hI.2.1, if_neg (nI_ge hk (by omega)), ck_n (by omega) (by decide), ck_n (by omega) (by decide), nI_clamp (by omega), nI_clamp (by omega), e7, e13, nx_and, hs, nI_1]
        by_cases hc : ν.L k 4 &&& ν.T t 5 = 0
        · rw [if_pos (by rw [hc]; rfl), if_pos hc]
        · rw [if_neg (fun h => hc ((nI_eq0 (by omega)).mp h)), if_neg hc]
      by_cases hc : ν.L k 4 &&& ν.T t 5 = 0
      · refine ⟨_, by rw [if_pos hc] at key; exact key, fun i hi => ?_⟩
        rw [b_or, hP i hi, b_and, b_sh1 (by omega) hi]
        unfold opn
        by_cases h1 : i = k
        · subst h1; simp [hc]
        · have : (decide (i < k + 1)) = decide (i < k) := by simp; omega
          rw [this]
          simp [h1]
      · refine ⟨_, by rw [if_neg hc] at key; exact key, fun i hi => ?_⟩
        rw [hP i hi]
        unfold opn
        by_cases h1 : i = k
        · subst h1; simp [hc]
        · have : (decide (i < k + 1)) = decide (i < k) := by simp; omega
          rw [this])
    N 0 0 (Nat.zero_le _) (by omega) (fun i _ => by rw [b_0]; simp)
  refine ⟨x, ?_, hP⟩
  unfold mX2_openTo
  rw [show mX2_openTo_4 u (nI t) I N 0 0 = some x from e, ob_some]
set_option maxHeartbeats 1000000 in
theorem c_fit (hn : WfN ν) (hI : NetC ν I) (hs : CS ν u σ I) (hw : WfW ν σ) (hN : 100 ≤ N) {t bd p : Nat} (ht : t < ν.tn) (hb : bd ≤ 99) (hp : p ≤ 7) : ∃ x, mX2_fitting N u (nI t) (nI bd) (nI p) I = some x ∧ ∀ i, i < 32 → bt x i = (decide (i < ν.ln) && fit ν σ t bd p i) := by
  have hln := hn.2.2.1
  have htn := hn.2.2.2.1
  obtain ⟨y, ey, hy⟩ := c_open hn hI hs.1 hN ht
  obtain ⟨x, hP, e⟩ := loopP (F := fun n v i => mX2_fitting_13 N u (nI t) (nI bd) (nI p) y I n v i) (b := ν.ln) (out := id)
    (P := fun k v => ∀ i, i < 32 → bt v i = (decide (i < k) && fit ν σ t bd p i))
    (fun n v _ => by
      show mX2_fitting_13 N u (nI t) (nI bd) (nI p) y I (n + 1) v (nI ν.ln) = some v
      rw [mX2_fitting_13, hI.2.1, if_pos (nI_le (Nat.le_refl _) (by omega))])
    (fun n k v hk hP => by
      have hpl := pl_sml (x := t) (p := p) hn hw hk
      have hyk := hy k (by omega)
      rw [decide_eq_true hk, Bool.true_and] at hyk
      have key : mX2_fitting_13 N u (nI t) (nI bd) (nI p) y I (n + 1) v (nI k) = if fit ν σ t bd p k = true then mX2_fitting_13 N u (nI t) (nI bd) (nI p) y I n (v ||| ((1 : Int32) <<< (nI k &&& 31))) (nI (k + 1)) else mX2_fitting_13 N u (nI t) (nI bd) (nI p) y I n v (nI (k + 1)) := by
        rw [mX2_fitting_13, hI.2.1, if_neg (nI_ge hk (by omega)), c_pool hn hI hs hw hN (Or.inl ⟨rfl, by omega⟩) hk hp, ob_some, nI_1]
        unfold fit
        rw [← hyk]
        cases hb2 : bt y k with
        | false => rw [if_pos ((cb0 (by omega) y).mpr hb2), if_neg (by simp)]
        | true =>
          rw [if_neg (fun h => by rw [(cb0 (by omega) y).mp h] at hb2; cases hb2), ← zI_nat bd]
          by_cases hc : (bd : Int) ≤ pl ν σ t k p
          · rw [if_neg (fun h => by rw [zI_lt ⟨by omega, by omega⟩ ⟨by omega, by omega⟩] at h; omega), if_pos (by simp [hc])]
          · rw [if_pos (by rw [zI_lt ⟨by omega, by omega⟩ ⟨by omega, by omega⟩]; omega), if_neg (by simp [hc])]
      by_cases hc : fit ν σ t bd p k = true
      · refine ⟨_, by rw [if_pos hc] at key; exact key, fun i hi => ?_⟩
        rw [b_or, hP i hi, b_sh1 (by omega) hi]
        by_cases h1 : i = k
        · subst h1; simp [hc]
        · have : (decide (i < k + 1)) = decide (i < k) := by simp; omega
          rw [this]
          simp [h1]
      · refine ⟨_, by rw [if_neg hc] at key; exact key, fun i hi => ?_⟩
        rw [hP i hi]
        by_cases h1 : i = k
        · subst h1; simp [hc]
        · have : (decide (i < k + 1)) = decide (i < k) := by simp; omega
          rw [this])
    N 0 0 (Nat.zero_le _) (by omega) (fun i _ => by rw [b_0]; simp)
  refine ⟨x, ?_, hP⟩
  unfold mX2_fitting
  rw [ey, ob_some, show mX2_fitting_13 N u (nI t) (nI bd) (nI p) y I N 0 0 = some x from e, ob_some]
theorem CS.fr {X : List Nat} {I I' : gI} (h : CS ν u σ I) (hf : Fr X I I') (h0 : u ∉ X) (h1 : u + 1 ∉ X) (h2 : u + 2 ∉ X) : CS ν u σ I' := ⟨by rw [hf u h0]; exact h.1, fun t ht => by rw [hf _ h1, hf _ h2]; exact h.2 t ht⟩
theorem c_show (hn : WfN ν) (hI : NetC ν I) (hs : CS ν u σ I) (hu : u ≠ 31 ∧ u + 1 ≠ 31 ∧ u + 2 ≠ 31) (hw : WfW ν σ) (hN : 100 ≤ N) {a : Int32} {x p : Nat} (hx : xAs a x) (hp : p ≤ 7) : ∃ I', mX2_showPools N u a (nI p) I = some I' ∧ Fr [31] I I' ∧ ∀ l, l < ν.ln → I' 31 l = zI (pl ν σ x l p) := by
  have hln := hn.2.2.1
  obtain ⟨I', hP, e⟩ := loopP (F := fun n s i => mX2_showPools_2 N u a (nI p) n i s) (b := ν.ln) (out := id)
    (P := fun k s => Fr [31] I s ∧ ∀ l, l < k → s 31 l = zI (pl ν σ x l p))
    (fun n s hP => by
      show mX2_showPools_2 N u a (nI p) (n + 1) (nI ν.ln) s = some s
      rw [mX2_showPools_2, (hI.fr hP.1 (by simp)).2.1, if_pos (nI_le (Nat.le_refl _) (by omega))])
    (fun n k s hk hP => by
      refine ⟨upd2 s 31 k (zI (pl ν σ x k p)), ?_, hP.1.u2 (by simp), fun l hl => ?_⟩
      · show mX2_showPools_2 N u a (nI p) (n + 1) (nI k) s = mX2_showPools_2 N u a (nI p) n (nI (k + 1)) _
        rw [mX2_showPools_2, (hI.fr hP.1 (by simp)).2.1, if_neg (nI_ge hk (by omega)), c_pool hn (hI.fr hP.1 (by simp)) (hs.fr hP.1 (by simp; omega) (by simp; omega) (by simp; omega)) hw hN hx hk hp, ob_some, ck_n (by omega) (by decide), nI_clamp (by omega), nI_1]
      · by_cases h : l = k
        · subst h; exact u2_at
        · rw [u2_ne (by omega)]; exact hP.2 l (by omega))
    N 0 I (Nat.zero_le _) (by omega) ⟨Fr.rf, fun l h => by omega⟩
  refine ⟨I', ?_, hP⟩
  unfold mX2_showPools
  rw [show mX2_showPools_2 N u a (nI p) N 0 I = some I' from e, ob_some]
/-- ways over links that are there alone -/
theorem IsP.congr {go' : Nat → Bool} {a z h : Nat} {p : List Nat} (hg : ∀ l, l < ν.ln → go l = go' l) (hp : IsP ν go a z h p) : IsP ν go' a z h p := ⟨hp.1, hp.2.1, hp.2.2.1, fun l hl => by rw [← hg l (chn_lt hp.1 l hl)]; exact hp.2.2.2 l hl⟩
theorem isB.congr {go' : Nat → Bool} {a z h : Nat} {p : List Nat} (hg : ∀ l, l < ν.ln → go l = go' l) (hp : isB ν go wd a z h p) : isB ν go' wd a z h p := ⟨hp.1.congr hg, fun q hq => hp.2 q (hq.congr (fun l hl => (hg l hl).symm))⟩
/-- the best way of a tunnel in a state, so much asked for at a priority: none, or a row -/
def bst (ν : Nt) (σ : St) (t bd p : Nat) (q : List Nat) : Prop := (q = [] ∧ ∀ q', ¬ IsP ν (fit ν σ t bd p) (ν.T t 0) (ν.T t 1) (ν.T t 6) q') ∨ isB ν (fit ν σ t bd p) (fun l => pl ν σ t l 7) (ν.T t 0) (ν.T t 1) (ν.T t 6) q
theorem c_bw (hn : WfN ν) (hI : NetC ν I) (hs : CS ν u σ I) (hu : 35 < u) (hw : WfW ν σ) (hN : 100 ≤ N) {t bd p : Nat} (ht : t < ν.tn) (hb : bd ≤ 99) (hp : p ≤ 7) :
    ∃ I' q, mX2_bestWay N u (nI t) (nI bd) (nI p) I = some (wb q, I') ∧ Fr [30, 31, 32, 33] I I' ∧ bst ν σ t bd p q := by
  have htn := hn.2.2.2.1
  have hnn := hn.2.1
  have hln := hn.2.2.1
  have hT := hn.2.2.2.2.2 t ht
  obtain ⟨x, ex, hx⟩ := c_fit hn hI hs hw hN ht hb hp
  obtain ⟨I1, e1, f1, d1⟩ := c_show (x := t) (a := nI t) hn hI hs ⟨by omega, by omega, by omega⟩ hw hN (Or.inl ⟨rfl, by omega⟩) (show 7 ≤ 7 by omega)
  have hI1 := hI.fr f1 (by simp)
  have hgo : ∀ l, l < ν.ln → fit ν σ t bd p l = bt x l := fun l hl => by rw [hx l (by omega), decide_eq_true hl, Bool.true_and]
  obtain ⟨I2, res, e2, f2, hres⟩ := c_best (I := I1) (x := x) (wd := fun l => pl ν σ t l 7) hn hI1 (show ν.T t 0 < 8 by omega) (show ν.T t 1 < 8 by omega) hT.2.2.1 hT.2.2.2.2.2.2.2.2.2 hgo (fun l hl => by have := pl_sml (x := t) (p := 7) hn hw hl; omega) hN d1
  have e7 : (7 : Int32) = nI 7 := rfl
  have base : mX2_bestWay N u (nI t) (nI bd) (nI p) I = some (res, I2) := by
    unfold mX2_bestWay
    rw [ex, ob_some, e7, e1, ob_some, ck_n (by omega) (by decide), nI_clamp (by omega), show I1 8 t = nI (ν.T t 0) from hI1.2.2.2.2 t ht 0 (by decide), show I1 9 t = nI (ν.T t 1) from hI1.2.2.2.2 t ht 1 (by decide), show I1 14 t = nI (ν.T t 6) from hI1.2.2.2.2 t ht 6 (by decide), e2, ob_some]
  rcases hres with ⟨q, hq, rfl⟩ | ⟨rfl, hno⟩
  · exact ⟨I2, q, base, (f1.mono (by simp)).tr (f2.mono (by simp)), Or.inr hq⟩
  · exact ⟨I2, [], base, (f1.mono (by simp)).tr (f2.mono (by simp)), Or.inl ⟨rfl, hno⟩⟩
end BestW
