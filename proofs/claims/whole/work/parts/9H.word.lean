/-! words -/
def wd (k j : Nat) : Nat := (([[110, 111, 100, 101, 115], [108, 105, 110, 107], [116, 117, 110, 110, 101, 108]] : List (List Nat)).getD k []).getD j 0
abbrev isW (k L : Nat) (b : Nat → Nat) (t : Tk) : Prop := t.1 = 1 ∧ t.2.2.1 - t.2.1 = L ∧ ∀ i, i < L → b (t.2.1 + i) = wd k i
theorem sb_s : ∀ x, x < 256 → (x < 128 → sb x = nI x) ∧ (128 ≤ x → sb x < 0) := by decide +kernel
theorem sb_c {x c : Nat} (hx : x < 256) (hc : c < 128) : sb x = nI c ↔ x = c := by
  have h := sb_s x hx
  by_cases h1 : x < 128
  · rw [h.1 h1, nI_eq (by omega) (by omega)]
  · have h2 := h.2 (by omega)
    refine ⟨fun e => ?_, fun e => by omega⟩
    rw [e] at h2
    exact absurd h2 (nI_pos (by omega))
section Words
variable {b : Nat → Nat} {n N st : Nat} {I : gI} {J : gJ} {s : RdS}
theorem w_loop {F : Nat → Int32 → Option (Unit ⊕ Int32)} {L : Nat} {W : Nat → Nat} (hs : ∀ f j, j < L → F (f + 1) (nI j) = if b (st + j) = W j then F f (nI (j + 1)) else some (.inr 0)) (he : ∀ f, F (f + 1) (nI L) = some (.inl ())) : ∀ m j fu, j + m = L → m < fu → (F fu (nI j) = some (.inl ()) ∧ ∀ i, j ≤ i → i < L → b (st + i) = W i) ∨ (F fu (nI j) = some (.inr 0) ∧ ∃ i, i < L ∧ b (st + i) ≠ W i)
  | 0, j, fu, h1, h2 => by
    obtain ⟨f, rfl⟩ : ∃ f, fu = f + 1 := ⟨fu - 1, by omega⟩
    have : j = L := by omega
    subst this
    exact Or.inl ⟨he f, fun i g1 g2 => by omega⟩
  | m + 1, j, fu, h1, h2 => by
    obtain ⟨f, rfl⟩ : ∃ f, fu = f + 1 := ⟨fu - 1, by omega⟩
    rw [hs f j (by omega)]
    by_cases hb : b (st + j) = W j
    · rw [if_pos hb]
      rcases w_loop hs he m (j + 1) f (by omega) (by omega) with ⟨q1, q2⟩ | ⟨q1, q2⟩
      · refine Or.inl ⟨q1, fun i g1 g2 => ?_⟩
        by_cases e : i = j
        · rw [e]; exact hb
        · exact q2 i (by omega) g2
      · exact Or.inr ⟨q1, q2⟩
    · rw [if_neg hb]
      exact Or.inr ⟨rfl, j, by omega, hb⟩
theorem c_ws0 (hT : TxC b n I) (h3 : I 28 3 = nI st) (hs : st + 5 ≤ n) (f j : Nat) (hj : j < 5) : mX5_isWord_s0_28 I (f + 1) (nI j) = if b (st + j) = wd 0 j then mX5_isWord_s0_28 I f (nI (j + 1)) else some (.inr 0) := by
  have hn7 := hT.1
  obtain ⟨b1, b2⟩ := hT.2.2 (st + j) (by omega)
  have hb := (by decide +kernel : ∀ j, j < 5 → (sByt 0 j &&& 255) = nI (wd 0 j) ∧ wd 0 j < 128) j hj
  rw [mX5_isWord_s0_28, if_neg (show ¬ Int32.ofNat (sLen 0) ≤ nI j from nI_ge (b := 5) hj (by omega)), h3, nI_add, ck_n (by omega) (by decide), ck_n hj (by decide), nI_clamp (n := st + j) (by omega), nI_clamp (n := j) (by omega), nI_1, b2, hb.1]
  by_cases h : b (st + j) = wd 0 j
  · rw [if_pos ((sb_c b1 hb.2).mpr h), if_pos h]
  · rw [if_neg (fun q => h ((sb_c b1 hb.2).mp q)), if_neg h]
theorem c_wd0 (hN : 2000 ≤ N) (h : CSt b n s I) : (isW 0 5 b s.2.2 → mX5_isWord_s0 N I = some 1) ∧ (¬ isW 0 5 b s.2.2 → mX5_isWord_s0 N I = some 0) := by
  have hL := h.len
  unfold mX5_isWord_s0
  by_cases h1 : s.2.2.1 = 1
  · rw [if_pos ((h.k (x := 1) (k := 1) rfl (by omega)).mpr h1), hL.1]
    by_cases h2 : s.2.2.2.2.1 - s.2.2.2.1 = 5
    · rw [if_pos (by rw [h2]; rfl)]
      have h4 := h.2.1.2.2.2.2.2
      rcases w_loop (b := b) (st := s.2.2.2.1) (F := mX5_isWord_s0_28 I) (L := 5) (W := wd 0) (c_ws0 h.1 h.2.1.2.1 (by omega)) (fun f => by rw [mX5_isWord_s0_28, if_pos (by decide)]) 5 0 N (by omega) (by omega) with ⟨q1, q2⟩ | ⟨q1, i, q2, q3⟩
      · rw [show mX5_isWord_s0_28 I N 0 = some (.inl ()) from q1, lb_l]
        exact ⟨fun _ => rfl, fun q => absurd ⟨h1, h2, fun i hi => q2 i (by omega) hi⟩ q⟩
      · rw [show mX5_isWord_s0_28 I N 0 = some (.inr 0) from q1, lb_r]
        exact ⟨fun q => absurd (q.2.2 i q2) q3, fun _ => rfl⟩
    · rw [if_neg (show ¬ nI (s.2.2.2.2.1 - s.2.2.2.1) = Int32.ofNat (sLen 0) from fun q => h2 ((nI_eq (b := 5) (by omega) (by omega)).mp q))]
      exact ⟨fun q => absurd q.2.1 h2, fun _ => rfl⟩
  · rw [if_neg (fun q => h1 ((h.k (x := 1) (k := 1) rfl (by omega)).mp q))]
    exact ⟨fun q => absurd q.1 h1, fun _ => rfl⟩
theorem c_ws1 (hT : TxC b n I) (h3 : I 28 3 = nI st) (hs : st + 4 ≤ n) (f j : Nat) (hj : j < 4) : mX5_isWord_s1_28 I (f + 1) (nI j) = if b (st + j) = wd 1 j then mX5_isWord_s1_28 I f (nI (j + 1)) else some (.inr 0) := by
  have hn7 := hT.1
  obtain ⟨b1, b2⟩ := hT.2.2 (st + j) (by omega)
  have hb := (by decide +kernel : ∀ j, j < 4 → (sByt 1 j &&& 255) = nI (wd 1 j) ∧ wd 1 j < 128) j hj
  rw [mX5_isWord_s1_28, if_neg (show ¬ Int32.ofNat (sLen 1) ≤ nI j from nI_ge (b := 4) hj (by omega)), h3, nI_add, ck_n (by omega) (by decide), ck_n hj (by decide), nI_clamp (n := st + j) (by omega), nI_clamp (n := j) (by omega), nI_1, b2, hb.1]
  by_cases h : b (st + j) = wd 1 j
  · rw [if_pos ((sb_c b1 hb.2).mpr h), if_pos h]
  · rw [if_neg (fun q => h ((sb_c b1 hb.2).mp q)), if_neg h]
theorem c_wd1 (hN : 2000 ≤ N) (h : CSt b n s I) : (isW 1 4 b s.2.2 → mX5_isWord_s1 N I = some 1) ∧ (¬ isW 1 4 b s.2.2 → mX5_isWord_s1 N I = some 0) := by
  have hL := h.len
  unfold mX5_isWord_s1
  by_cases h1 : s.2.2.1 = 1
  · rw [if_pos ((h.k (x := 1) (k := 1) rfl (by omega)).mpr h1), hL.1]
    by_cases h2 : s.2.2.2.2.1 - s.2.2.2.1 = 4
    · rw [if_pos (by rw [h2]; rfl)]
      have h4 := h.2.1.2.2.2.2.2
      rcases w_loop (b := b) (st := s.2.2.2.1) (F := mX5_isWord_s1_28 I) (L := 4) (W := wd 1) (c_ws1 h.1 h.2.1.2.1 (by omega)) (fun f => by rw [mX5_isWord_s1_28, if_pos (by decide)]) 4 0 N (by omega) (by omega) with ⟨q1, q2⟩ | ⟨q1, i, q2, q3⟩
      · rw [show mX5_isWord_s1_28 I N 0 = some (.inl ()) from q1, lb_l]
        exact ⟨fun _ => rfl, fun q => absurd ⟨h1, h2, fun i hi => q2 i (by omega) hi⟩ q⟩
      · rw [show mX5_isWord_s1_28 I N 0 = some (.inr 0) from q1, lb_r]
        exact ⟨fun q => absurd (q.2.2 i q2) q3, fun _ => rfl⟩
    · rw [if_neg (show ¬ nI (s.2.2.2.2.1 - s.2.2.2.1) = Int32.ofNat (sLen 1) from fun q => h2 ((nI_eq (b := 4) (by omega) (by omega)).mp q))]
      exact ⟨fun q => absurd q.2.1 h2, fun _ => rfl⟩
  · rw [if_neg (fun q => h1 ((h.k (x := 1) (k := 1) rfl (by omega)).mp q))]
    exact ⟨fun q => absurd q.1 h1, fun _ => rfl⟩
theorem c_ws2 (hT : TxC b n I) (h3 : I 28 3 = nI st) (hs : st + 6 ≤ n) (f j : Nat) (hj : j < 6) : mX5_isWord_s2_28 I (f + 1) (nI j) = if b (st + j) = wd 2 j then mX5_isWord_s2_28 I f (nI (j + 1)) else some (.inr 0) := by
  have hn7 := hT.1
  obtain ⟨b1, b2⟩ := hT.2.2 (st + j) (by omega)
  have hb := (by decide +kernel : ∀ j, j < 6 → (sByt 2 j &&& 255) = nI (wd 2 j) ∧ wd 2 j < 128) j hj
  rw [mX5_isWord_s2_28, if_neg (show ¬ Int32.ofNat (sLen 2) ≤ nI j from nI_ge (b := 6) hj (by omega)), h3, nI_add, ck_n (by omega) (by decide), ck_n hj (by decide), nI_clamp (n := st + j) (by omega), nI_clamp (n := j) (by omega), nI_1, b2, hb.1]
  by_cases h : b (st + j) = wd 2 j
  · rw [if_pos ((sb_c b1 hb.2).mpr h), if_pos h]
  · rw [if_neg (fun q => h ((sb_c b1 hb.2).mp q)), if_neg h]
theorem c_wd2 (hN : 2000 ≤ N) (h : CSt b n s I) : (isW 2 6 b s.2.2 → mX5_isWord_s2 N I = some 1) ∧ (¬ isW 2 6 b s.2.2 → mX5_isWord_s2 N I = some 0) := by
  have hL := h.len
  unfold mX5_isWord_s2
  by_cases h1 : s.2.2.1 = 1
  · rw [if_pos ((h.k (x := 1) (k := 1) rfl (by omega)).mpr h1), hL.1]
    by_cases h2 : s.2.2.2.2.1 - s.2.2.2.1 = 6
    · rw [if_pos (by rw [h2]; rfl)]
      have h4 := h.2.1.2.2.2.2.2
      rcases w_loop (b := b) (st := s.2.2.2.1) (F := mX5_isWord_s2_28 I) (L := 6) (W := wd 2) (c_ws2 h.1 h.2.1.2.1 (by omega)) (fun f => by rw [mX5_isWord_s2_28, if_pos (by decide)]) 6 0 N (by omega) (by omega) with ⟨q1, q2⟩ | ⟨q1, i, q2, q3⟩
      · rw [show mX5_isWord_s2_28 I N 0 = some (.inl ()) from q1, lb_l]
        exact ⟨fun _ => rfl, fun q => absurd ⟨h1, h2, fun i hi => q2 i (by omega) hi⟩ q⟩
      · rw [show mX5_isWord_s2_28 I N 0 = some (.inr 0) from q1, lb_r]
        exact ⟨fun q => absurd (q.2.2 i q2) q3, fun _ => rfl⟩
    · rw [if_neg (show ¬ nI (s.2.2.2.2.1 - s.2.2.2.1) = Int32.ofNat (sLen 2) from fun q => h2 ((nI_eq (b := 6) (by omega) (by omega)).mp q))]
      exact ⟨fun q => absurd q.2.1 h2, fun _ => rfl⟩
  · rw [if_neg (fun q => h1 ((h.k (x := 1) (k := 1) rfl (by omega)).mp q))]
    exact ⟨fun q => absurd q.1 h1, fun _ => rfl⟩
theorem pkw_inj {c : Nat → Nat} {st2 : Nat} : ∀ {L : Nat}, (∀ j, j < L → ltr (b (st + j)) = true) → (∀ j, j < L → ltr (c (st2 + j)) = true) → pkw b st L = pkw c st2 L → ∀ j, j < L → b (st + j) = c (st2 + j)
  | 0, _, _, _, j, hj => by omega
  | L + 1, h1, h2, h3, j, hj => by
    have g1 := h1 L (by omega)
    have g2 := h2 L (by omega)
    unfold ltr at g1 g2
    simp at g1 g2
    rw [pkw, pkw] at h3
    by_cases e : j = L
    · subst e; omega
    · exact pkw_inj (L := L) (fun i hi => h1 i (by omega)) (fun i hi => h2 i (by omega)) (by omega) j (by omega)
theorem pkw_eq {c : Nat → Nat} {st2 : Nat} : ∀ {L : Nat}, (∀ j, j < L → b (st + j) = c (st2 + j)) → pkw b st L = pkw c st2 L
  | 0, _ => rfl
  | L + 1, h => by rw [pkw, pkw, pkw_eq (L := L) (fun j hj => h j (by omega)), h L (by omega)]
theorem m_wd {k L : Nat} {a3 : Int32} (h : MSt b n s I J) (hL6 : L ≤ 6) (hw : ∀ j, j < L → ltr (wd k (0 + j)) = true) (ha : a3 = nI L) : (isW k L b s.2.2 → mX11_isWord (lN (pkw (wd k) 0 L)) a3 I J = some 1) ∧ (¬ isW k L b s.2.2 → mX11_isWord (lN (pkw (wd k) 0 L)) a3 I J = some 0) := by
  have hL := h.len
  unfold mX11_isWord
  by_cases h1 : s.2.2.1 = 1
  · rw [if_pos ((h.k (x := 1) (k := 1) rfl (by omega)).mpr h1), hL.1, ha]
    by_cases h2 : s.2.2.2.2.1 - s.2.2.2.1 = L
    · obtain ⟨e, he⟩ := h.2.2.2.2.2
      have hl : ∀ j, j < L → ltr (b (s.2.2.2.1 + j)) = true := fun j hj => by
        have q := tkAt_l (b := b) (n := n) (e := e)
        rw [← he] at q
        exact q h1 _ (by omega) (by omega)
      have p1 := pkw_lt hl
      have p2 := pkw_lt hw
      have p3 := (by decide : ∀ k, k ≤ 6 → p32 k ≤ 1073741824) L hL6
      have hJ := h.2.1.2.2.2.2.2.1 h1
      rw [h2, if_pos hL6] at hJ
      rw [if_pos (by rw [h2]), hJ]
      by_cases hc : ∀ i, i < L → b (s.2.2.2.1 + i) = wd k i
      · refine ⟨fun _ => ?_, fun q => absurd ⟨h1, h2, hc⟩ q⟩
        rw [if_pos ((lg_cmp_eq _ _).mpr (by rw [pkw_eq (c := wd k) (st2 := 0) (fun j hj => by rw [Nat.zero_add]; exact hc j hj)]))]
      · refine ⟨fun q => absurd q.2.2 hc, fun _ => ?_⟩
        rw [if_neg (fun q => hc (fun i hi => ?_))]
        have q2 := (lg_cmp_eq _ _).mp q
        have q3 := (lN_eq (by omega) (by omega)).mp q2
        have q4 := pkw_inj hl hw q3 i hi
        rw [Nat.zero_add] at q4
        exact q4
    · rw [if_neg (fun q => h2 ((nI_eq (by omega) (by omega)).mp q))]
      exact ⟨fun q => absurd q.2.1 h2, fun _ => rfl⟩
  · rw [if_neg (fun q => h1 ((h.k (x := 1) (k := 1) rfl (by omega)).mp q))]
    exact ⟨fun q => absurd q.1 h1, fun _ => rfl⟩
theorem m_sp0 : mX11_spelled 110 111 100 101 115 0 I = some (lN (pkw (wd 0) 0 5)) := by
  unfold mX11_spelled
  decide +kernel
theorem m_sp1 : mX11_spelled 108 105 110 107 0 0 I = some (lN (pkw (wd 1) 0 4)) := by
  unfold mX11_spelled
  decide +kernel
theorem m_sp2 : mX11_spelled 116 117 110 110 101 108 I = some (lN (pkw (wd 2) 0 6)) := by
  unfold mX11_spelled
  decide +kernel
theorem m_wd0 (h : MSt b n s I J) : (isW 0 5 b s.2.2 → mX11_isWord (lN (pkw (wd 0) 0 5)) 5 I J = some 1) ∧ (¬ isW 0 5 b s.2.2 → mX11_isWord (lN (pkw (wd 0) 0 5)) 5 I J = some 0) := m_wd h (by omega) (by decide) rfl
theorem m_wd1 (h : MSt b n s I J) : (isW 1 4 b s.2.2 → mX11_isWord (lN (pkw (wd 1) 0 4)) 4 I J = some 1) ∧ (¬ isW 1 4 b s.2.2 → mX11_isWord (lN (pkw (wd 1) 0 4)) 4 I J = some 0) := m_wd h (by omega) (by decide) rfl
theorem m_wd2 (h : MSt b n s I J) : (isW 2 6 b s.2.2 → mX11_isWord (lN (pkw (wd 2) 0 6)) 6 I J = some 1) ∧ (¬ isW 2 6 b s.2.2 → mX11_isWord (lN (pkw (wd 2) 0 6)) 6 I J = some 0) := m_wd h (by omega) (by decide) rfl
end Words
