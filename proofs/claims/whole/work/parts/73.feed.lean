/-! feed -/
section Feed
variable {N : Nat}
theorem b_i8 (x : Int32) {i : Nat} (hi : i < 32) : bt x.toInt8.toInt32 i = bt x (if i < 8 then i else 7) := by
  rw [show bt x.toInt8.toInt32 i = (x.toInt8.toInt32).toBitVec.getLsbD i from rfl, Int8.toBitVec_toInt32, Int32.toBitVec_toInt8, BitVec.getLsbD_signExtend]
  unfold bt
  by_cases h : i < 8
  · rw [if_pos h, if_pos h, BitVec.getLsbD_signExtend, if_pos hi]
    simp [hi, h]
  · rw [if_neg h, if_neg h, BitVec.msb_eq_getLsbD_last, BitVec.getLsbD_signExtend]
    simp [hi]
theorem nar8 (x : Int32) : vp_nar .byte x.toInt8.toInt32 = x.toInt8.toInt32 := by
  have h : vp_nar .byte x.toInt8.toInt32 = x.toInt8.toInt32.toInt8.toInt32 := rfl
  rw [h]
  apply b_ext
  intro i hi
  rw [b_i8 _ hi, b_i8 _ (by split <;> omega), b_i8 _ hi]
  congr 1
  by_cases h : i < 8
  · rw [if_pos h, if_pos h]
  · rw [if_neg h, if_pos (by omega)]
theorem b_ff {i : Nat} (hi : i < 32) : bt 255 i = decide (i < 8) := (by decide +kernel : ∀ i, i < 32 → bt 255 i = decide (i < 8)) i hi
/-- one byte of a number, in both -/
theorem byte_eq (x : Int32) {s : Nat} (hs : s ≤ 24) : ∃ b, b < 256 ∧ (x >>> (nI s &&& 31)) &&& 255 = nI b ∧ vp_nar .byte ((ushr x (nI s)).toInt8.toInt32) = (nI b).toInt8.toInt32 := by
  refine ⟨mk9 (fun i => bt x (s + i)) 8, mk9_lt 8, b_ext fun i hi => ?_, ?_⟩
  · rw [b_and, b_sshr s (by omega) x hi, b_ff hi, b_nI hi, mk9_tb]
    by_cases h : i < 8
    · rw [if_pos (by omega)]; simp [h]
    · simp [h]
  · rw [nar8]
    apply b_ext
    intro i hi
    have h7 : (if i < 8 then i else 7) < 8 := by split <;> omega
    rw [b_i8 _ hi, b_i8 _ hi, show ushr x (nI s) = (x.toUInt32 >>> ((nI s).toUInt32 &&& Int32.toUInt32 31)).toInt32 from rfl, b_ushr s (by omega), b_nI (by omega), mk9_tb, decide_eq_true h7, Bool.true_and]
def TpC (n : Nat) (B : Nat → Nat) (I : gI) : Prop := I 0 1 = nI n ∧ ∀ j, j < n → I 1 j = (nI (B j)).toInt8.toInt32
def TpM (n : Nat) (B : Nat → Nat) (I : gI) : Prop := I 310 2 = nI n ∧ ∀ j, j < n → I 311 j = nI (B j)
def FrC (I I' : gI) : Prop := ∀ c j, c ≠ 1 → ¬ (c = 0 ∧ j = 1) → I' c j = I c j
def FrM (I I' : gI) : Prop := ∀ c j, c ≠ 311 → ¬ (c = 310 ∧ j = 2) → I' c j = I c j
theorem one_byte {n : Nat} {B : Nat → Nat} (hn : n < 700) (hB : ∀ j, j < n → B j < 256) (x : Int32) {s : Nat} (hs : s ≤ 24) : ∃ B' : Nat → Nat, (∀ j, j < n + 1 → B' j < 256) ∧
    (∀ (I : gI) (k : Nat), TpC n B I → ∃ I', mX10_putBytes_3 x (k + 1) (nI s) I = mX10_putBytes_3 x k (nI s + (-8)) I' ∧ TpC (n + 1) B' I' ∧ FrC I I') ∧
    (∀ (I : gI) (k : Nat), TpM n B I → ∃ I', mX11_lays_3 x (k + 1) (nI s) I = mX11_lays_3 x k (nI s + (-8)) I' ∧ TpM (n + 1) B' I' ∧ FrM I I') := by
  obtain ⟨b, hb, e1, e2⟩ := byte_eq x hs
  refine ⟨fun j => if j = n then b else B j, fun j hj => ?_, fun I k h => ?_, fun I k h => ?_⟩
  · show (if j = n then b else B j) < 256
    by_cases h : j = n
    · rw [if_pos h]; exact hb
    · rw [if_neg h]; exact hB j (by omega)
  · refine ⟨upd2 (upd2 I 1 n ((nI b).toInt8.toInt32)) 0 1 (nI (n + 1)), ?_, ⟨u2_at, fun j hj => ?_⟩, fun c j q1 q2 => ?_⟩
    · rw [mX10_putBytes_3, if_neg (nI_pos (by omega)), h.1, show (700 : Int32) = nI 700 from rfl, if_neg (nI_ge hn (by omega)), ck_n hn (by decide), nm_n, nI_clamp (by omega), e2, u2_c (show 0 ≠ 1 by decide), h.1, nI_1]
    · rw [u2_c (by decide)]
      show _ = (nI (if j = n then b else B j)).toInt8.toInt32
      by_cases e : j = n
      · subst e; rw [u2_at, if_pos rfl]
      · rw [u2_ne (by omega), if_neg e]; exact h.2 j (by omega)
    · rw [u2_ne q2, u2_c q1]
  · refine ⟨upd2 (upd2 I 311 n (nI b)) 310 2 (nI (n + 1)), ?_, ⟨u2_at, fun j hj => ?_⟩, fun c j q1 q2 => ?_⟩
    · rw [mX11_lays_3, if_neg (nI_pos (by omega)), h.1, ck_n hn (by decide), nm_n, nm_n, nI_clamp (by omega), e1, u2_c (show 310 ≠ 311 by decide), h.1, nI_1]
    · rw [u2_c (by decide)]
      show _ = nI (if j = n then b else B j)
      by_cases e : j = n
      · subst e; rw [u2_at, if_pos rfl]
      · rw [u2_ne (by omega), if_neg e]; exact h.2 j (by omega)
    · rw [u2_ne q2, u2_c q1]
theorem one_word {n : Nat} {B : Nat → Nat} (hN : 100 ≤ N) (hn : n + 4 ≤ 700) (hB : ∀ j, j < n → B j < 256) (x : Int32) : ∃ B' : Nat → Nat, (∀ j, j < n + 4 → B' j < 256) ∧
    (∀ (I : gI), TpC n B I → ∃ I', mX10_putBytes N x I = some I' ∧ TpC (n + 4) B' I' ∧ FrC I I') ∧
    (∀ (I : gI), TpM n B I → ∃ I', mX11_lays N x I = some I' ∧ TpM (n + 4) B' I' ∧ FrM I I') := by
  obtain ⟨m, rfl⟩ : ∃ m, N = m + 1 + 1 + 1 + 1 + 1 := ⟨N - 5, by omega⟩
  obtain ⟨B1, h1, c1, m1⟩ := one_byte (n := n) (by omega) hB x (s := 24) (by omega)
  obtain ⟨B2, h2, c2, m2⟩ := one_byte (n := n + 1) (by omega) h1 x (s := 16) (by omega)
  obtain ⟨B3, h3, c3, m3⟩ := one_byte (n := n + 1 + 1) (by omega) h2 x (s := 8) (by omega)
  obtain ⟨B4, h4, c4, m4⟩ := one_byte (n := n + 1 + 1 + 1) (by omega) h3 x (s := 0) (by omega)
  refine ⟨B4, h4, fun I h => ?_, fun I h => ?_⟩
  · obtain ⟨I1, e1, t1, f1⟩ := c1 I (m + 1 + 1 + 1 + 1) h
    obtain ⟨I2, e2, t2, f2⟩ := c2 I1 (m + 1 + 1 + 1) t1
    obtain ⟨I3, e3, t3, f3⟩ := c3 I2 (m + 1 + 1) t2
    obtain ⟨I4, e4, t4, f4⟩ := c4 I3 (m + 1) t3
    refine ⟨I4, ?_, t4, fun c j q1 q2 => by rw [f4 c j q1 q2, f3 c j q1 q2, f2 c j q1 q2, f1 c j q1 q2]⟩
    unfold mX10_putBytes
    rw [show (24 : Int32) = nI 24 from rfl, e1, show nI 24 + (-8) = nI 16 by decide, e2, show nI 16 + (-8) = nI 8 by decide, e3, show nI 8 + (-8) = nI 0 by decide, e4, mX10_putBytes_3, if_pos (by decide), ob_some]
  · obtain ⟨I1, e1, t1, f1⟩ := m1 I (m + 1 + 1 + 1 + 1) h
    obtain ⟨I2, e2, t2, f2⟩ := m2 I1 (m + 1 + 1 + 1) t1
    obtain ⟨I3, e3, t3, f3⟩ := m3 I2 (m + 1 + 1) t2
    obtain ⟨I4, e4, t4, f4⟩ := m4 I3 (m + 1) t3
    refine ⟨I4, ?_, t4, fun c j q1 q2 => by rw [f4 c j q1 q2, f3 c j q1 q2, f2 c j q1 q2, f1 c j q1 q2]⟩
    unfold mX11_lays
    rw [show (24 : Int32) = nI 24 from rfl, e1, show nI 24 + (-8) = nI 16 by decide, e2, show nI 16 + (-8) = nI 8 by decide, e3, show nI 8 + (-8) = nI 0 by decide, e4, mX11_lays_3, if_pos (by decide), ob_some]
theorem s_feed (hN : 100000000000 ≤ N) : St_feed N Inv := by
  intro c I J a1 a2 a3 a4 a5 hc hInv
  obtain ⟨⟨ν, σ, ks, vs, hP⟩, mv⟩ := id hInv
  obtain ⟨hn, g, c1, m1, c2, m2, ac, sg, im, tp, ct⟩ := id hP
  have s0 : ∀ {K : gI}, Sm K (upd2 K 310 0 0) := Sm.rf.u0
  obtain ⟨n, t1, t2, t3, t4⟩ := tp
  have e20 : (700 : Int32) = nI 700 := rfl
  by_cases h : n + 20 ≤ 700
  · have hex : ∃ B : Nat → Nat, ∀ j, j < n → B j < 256 ∧ I 311 j = nI (B j) ∧ I 1 j = (nI (B j)).toInt8.toInt32 := by
      refine ⟨fun j => if h : j < n then Classical.choose (t4 j h) else 0, fun j hj => ?_⟩
      have := Classical.choose_spec (t4 j hj)
      simp only [dif_pos hj]
      exact this
    obtain ⟨B, hB⟩ := hex
    obtain ⟨B1, b1, x1, y1⟩ := one_word (N := N) (n := n) (by omega) (by omega) (fun j hj => (hB j hj).1) a1
    obtain ⟨B2, b2, x2, y2⟩ := one_word (N := N) (n := n + 4) (by omega) (by omega) b1 a2
    obtain ⟨B3, b3, x3, y3⟩ := one_word (N := N) (n := n + 4 + 4) (by omega) (by omega) b2 a3
    obtain ⟨B4, b4, x4, y4⟩ := one_word (N := N) (n := n + 4 + 4 + 4) (by omega) (by omega) b3 a4
    obtain ⟨B5, b5, x5, y5⟩ := one_word (N := N) (n := n + 4 + 4 + 4 + 4) (by omega) (by omega) b4 a5
    obtain ⟨I1, e1, p1, f1⟩ := x1 I ⟨t2, fun j hj => (hB j hj).2.2⟩
    obtain ⟨I2, e2, p2, f2⟩ := x2 I1 p1
    obtain ⟨I3, e3, p3, f3⟩ := x3 I2 p2
    obtain ⟨I4, e4, p4, f4⟩ := x4 I3 p3
    obtain ⟨I5, e5, p5, f5⟩ := x5 I4 p4
    have fc : FrC I I5 := fun c j q1 q2 => by rw [f5 c j q1 q2, f4 c j q1 q2, f3 c j q1 q2, f2 c j q1 q2, f1 c j q1 q2]
    obtain ⟨K1, k1, r1, g1⟩ := y1 (upd2 I5 310 0 0) ⟨by rw [u2_ne (by omega), fc 310 2 (by omega) (by omega)]; exact t3, fun j hj => by rw [u2_c (by decide), fc 311 j (by omega) (by omega)]; exact (hB j hj).2.1⟩
    obtain ⟨K2, k2, r2, g2⟩ := y2 K1 r1
    obtain ⟨K3, k3, r3, g3⟩ := y3 K2 r2
    obtain ⟨K4, k4, r4, g4⟩ := y4 K3 r3
    obtain ⟨K5, k5, r5, g5⟩ := y5 K4 r4
    have fm : FrM (upd2 I5 310 0 0) K5 := fun c j q1 q2 => by rw [g5 c j q1 q2, g4 c j q1 q2, g3 c j q1 q2, g2 c j q1 q2, g1 c j q1 q2]
    have key : ∀ c j, c ≠ 1 → c ≠ 311 → ¬ (c = 0 ∧ j = 1) → ¬ (c = 310 ∧ (j = 0 ∨ j = 2)) → K5 c j = I c j := fun c j q1 q2 q3 q4 => by rw [fm c j q2 (by omega), u2_ne (by omega), fc c j q1 q3]
    have kc : ∀ c, 2 ≤ c → c ≠ 310 → c ≠ 311 → K5 c = I c := fun c q1 q2 q3 => by funext j; exact key c j (by omega) q3 (by omega) (by omega)
    refine ⟨nI (n + 4 + 4 + 4 + 4 + 4), I5, K5, ?_, ?_, ⟨ν, σ, ks, vs, hn, g, c1.fr (X := [0, 1, 310, 311]) (fun c hc => kc c (by simp at hc; omega) (by simp at hc; omega) (by simp at hc; omega)) (by simp), ?_, c2.eq (kc _ (by omega) (by omega) (by omega)) (kc _ (by omega) (by omega) (by omega)) (kc _ (by omega) (by omega) (by omega)), m2.c (kc _ (by omega) (by omega) (by omega)), ⟨ac.1, ac.2.1, ac.2.2.1.fr (fun c q1 q2 => kc c (by omega) (by omega) (by omega)), Rows.fr hn ac.2.1 ac.2.2.2 (kc _ (by omega) (by omega) (by omega)) (key _ _ (by omega) (by omega) (by omega) (by omega))⟩, ?_, ?_, ?_, ?_⟩, ?_⟩
    · unfold mX10_feed
      rw [t2, show (20 : Int32) = nI 20 from rfl, nI_add, e20, if_pos (nI_le h (by omega)), e1, ob_some, e2, ob_some, e3, ob_some, e4, ob_some, e5, ob_some, p5.1]
    · unfold mX11_feed
      rw [show (upd2 I5 310 0 0) 310 2 = nI n by rw [u2_ne (by omega), fc 310 2 (by omega) (by omega)]; exact t3, show (20 : Int32) = nI 20 from rfl, nI_add, e20, if_pos (nI_le h (by omega)), k1, ob_some, k2, ob_some, k3, ob_some, k4, ob_some, k5, ob_some, r5.1]
    · exact ⟨by rw [key _ _ (by omega) (by omega) (by omega) (by omega)]; exact m1.1, by rw [key _ _ (by omega) (by omega) (by omega) (by omega)]; exact m1.2.1, by rw [key _ _ (by omega) (by omega) (by omega) (by omega)]; exact m1.2.2.1, by rw [kc 313 (by omega) (by omega) (by omega)]; exact m1.2.2.2.1, by rw [kc 315 (by omega) (by omega) (by omega)]; exact m1.2.2.2.2⟩
    · obtain ⟨h1, h2, h3, h4, h5⟩ := sg
      exact ⟨h1, h2, by rw [kc 173 (by omega) (by omega) (by omega)]; exact h3, by rw [key _ _ (by omega) (by omega) (by omega) (by omega)]; exact h4, fun j hj k hk => by rw [kc _ (by omega) (by omega) (by omega), kc 333 (by omega) (by omega) (by omega)]; exact h5 j hj k hk⟩
    · obtain ⟨i1, i2⟩ := im
      refine ⟨by rw [key _ _ (by omega) (by omega) (by omega) (by omega), key 0 16 (by omega) (by omega) (by omega) (by omega)]; exact i1, ?_⟩
      rw [key 0 16 (by omega) (by omega) (by omega) (by omega)]
      rcases i2 with i2 | ⟨i2, σi, ki, vi, gi, ci, mi, ai, si⟩
      · exact Or.inl i2
      · refine Or.inr ⟨i2, σi, ki, vi, gi, ci.eq (kc _ (by omega) (by omega) (by omega)) (kc _ (by omega) (by omega) (by omega)) (kc _ (by omega) (by omega) (by omega)), mi.c (kc _ (by omega) (by omega) (by omega)), ?_, ?_⟩
        · obtain ⟨h1, h2, ⟨f, q1, q2, q3, q4⟩, w1, w2⟩ := ai
          exact ⟨h1, h2, ⟨f, q1, by rw [kc 182 (by omega) (by omega) (by omega)]; exact q2, by rw [kc 182 (by omega) (by omega) (by omega)]; exact q3, fun j hj => (q4 j hj).eq (kc _ (by omega) (by omega) (by omega)) (kc _ (by omega) (by omega) (by omega)) (kc _ (by omega) (by omega) (by omega))⟩, by rw [key _ _ (by omega) (by omega) (by omega) (by omega)]; exact w1, fun j hj => (w2 j hj).c (kc _ (by omega) (by omega) (by omega))⟩
        · obtain ⟨h1, h2, h3, h4, h5⟩ := si
          exact ⟨h1, h2, by rw [kc 304 (by omega) (by omega) (by omega)]; exact h3, by rw [key _ _ (by omega) (by omega) (by omega) (by omega)]; exact h4, fun j hj k hk => by rw [kc _ (by omega) (by omega) (by omega), kc 336 (by omega) (by omega) (by omega)]; exact h5 j hj k hk⟩
    · refine ⟨n + 4 + 4 + 4 + 4 + 4, by omega, ?_, r5.1, fun j hj => ⟨B5 j, b5 j hj, r5.2 j hj, ?_⟩⟩
      · rw [fm 0 1 (by omega) (by omega), u2_c (by decide)]; exact p5.1
      · rw [fm 1 j (by omega) (by omega), u2_c (by decide)]; exact p5.2 j hj
    · unfold Ctr
      rw [key 310 4 (by omega) (by omega) (by omega) (by omega), key 0 2 (by omega) (by omega) (by omega) (by omega), key 0 3 (by omega) (by omega) (by omega) (by omega), key 0 4 (by omega) (by omega) (by omega) (by omega), key 0 5 (by omega) (by omega) (by omega) (by omega), kc 312 (by omega) (by omega) (by omega)]
      exact ct
    · obtain ⟨m, q1, q2, q3⟩ := mv
      exact ⟨m, by omega, by rw [kc 43 (by omega) (by omega) (by omega)]; exact q2, fun s hs => by rw [kc 49 (by omega) (by omega) (by omega)]; exact q3 s hs⟩
  · refine ⟨-1, I, upd2 I 310 0 0, ?_, ?_, hInv.sm s0⟩
    · unfold mX10_feed
      rw [t2, show (20 : Int32) = nI 20 from rfl, nI_add, e20, if_neg (nI_ge (by omega) (by omega))]
    · unfold mX11_feed
      rw [u2_ne (by omega), t3, show (20 : Int32) = nI 20 from rfl, nI_add, e20, if_neg (nI_ge (by omega) (by omega))]
end Feed
