/-! the whole text; the class -/
def nt0 (k : Nat) : Nt := ((k, 0, 0), fun _ _ => 0, fun _ _ => 0)
def st0 (b : Nat → Nat) (n : Nat) : RdS := (0, 0, tkAt b n 0)
def rTop (b : Nat → Nat) (n : Nat) : RdS := rSem b n (rNum b n 2 8 (acc b n (st0 b n)))
def pTop (b : Nat → Nat) (n : Nat) : Nt × RdS := if isW 0 5 b (st0 b n).2.2 then (nt0 (acc b n (st0 b n)).2.2.2.2.2, rTop b n) else (nt0 2, st0 b n)
def pAll (b : Nat → Nat) (n : Nat) : Nt × RdS := pRun b n 701 (pTop b n).1 (pTop b n).2
theorem wf_0 {k : Nat} (h1 : 2 ≤ k) (h2 : k ≤ 8) : WfN (nt0 k) := ⟨h1, h2, Nat.zero_le _, Nat.zero_le _, fun l hl => absurd hl (Nat.not_lt_zero _), fun l hl => absurd hl (Nat.not_lt_zero _)⟩
theorem dc_0 {k : Nat} {I : gI} (h0 : I 15 0 = nI k) (h1 : I 15 1 = 0) (h2 : I 15 2 = 0) : DrC (nt0 k) I := ⟨h0, h1, h2, fun l hl => absurd hl (Nat.not_lt_zero _), fun l hl => absurd hl (Nat.not_lt_zero _)⟩
theorem dm_0 {k : Nat} {I : gI} (h0 : I 310 16 = nI k) (h1 : I 310 17 = 0) (h2 : I 310 18 = 0) : DrM (nt0 k) I := ⟨h0, h1, h2, fun l hl => absurd hl (Nat.not_lt_zero _), fun l hl => absurd hl (Nat.not_lt_zero _)⟩
section CTop
variable {b : Nat → Nat} {n N : Nat} {I : gI}
theorem rTop_0 (h : (rTop b n).1 = 0) : (rNum b n 2 8 (acc b n (st0 b n))).1 = 0 := rSem_0 h
set_option maxHeartbeats 2000000 in
theorem c_read (hN : 2000 ≤ N) (hn7 : n ≤ 700) (hb : ∀ j, j < n → b j < 256 ∧ I 1 j = sb (b j)) : ∃ I', mX5_read N (nI n) I = some (nI (pAll b n).2.1, I') ∧ CSt b n (pAll b n).2 I' ∧ ((pAll b n).2.1 = 0 → DrC (pAll b n).1 I' ∧ WfN (pAll b n).1) ∧ ∀ c, c < 15 ∨ 28 < c → I' c = I c := by
  obtain ⟨I1, h1⟩ : ∃ I1, I1 = upd2 (upd2 (upd2 I 28 1 (nI n)) 28 6 0) 28 7 (-1) := ⟨_, rfl⟩
  obtain ⟨I3, h3⟩ : ∃ I3, I3 = upd2 (upd2 (upd2 (upd2 I1 28 4 0) 15 0 2) 15 1 0) 15 2 0 := ⟨_, rfl⟩
  have k28 : ∀ j, j ≠ 4 → I3 28 j = I1 28 j := fun j hj => by rw [h3, u2_c (by decide), u2_c (by decide), u2_c (by decide), u2_ne (by omega)]
  have k4 : I3 28 4 = nI 0 := by rw [h3, u2_c (by decide), u2_c (by decide), u2_c (by decide), u2_at]; rfl
  have kC : ∀ c, c ≠ 28 → c ≠ 15 → I3 c = I c := fun c g1 g2 => by rw [h3, u2_c g2, u2_c g2, u2_c g2, u2_c g1, h1, u2_c g1, u2_c g1, u2_c g1]
  have t3 : TxC b n I3 := ⟨hn7, by rw [k28 1 (by decide), h1, u2_ne (by omega), u2_ne (by omega), u2_at], fun j hj => by rw [kC 1 (by decide) (by decide)]; exact hb j hj⟩
  obtain ⟨I5, e5, c5, t5, f5, g5⟩ := c_next (N := N) hN t3 (Nat.zero_le _) k4
  have s5 : CSt b n (st0 b n) I5 := by
    refine ⟨t5, c5, ?_, Nat.zero_le _, ?_, ⟨_, rfl⟩⟩
    · rw [g5 6 (by omega) (by omega) (by omega) (by omega), k28 6 (by decide), h1, u2_ne (by omega), u2_at]; rfl
    · rw [g5 7 (by omega) (by omega) (by omega) (by omega), k28 7 (by decide), h1, u2_at]; rfl
  have d5 : DrC (nt0 2) I5 := dc_0 (by rw [f5 15 (by decide), h3, u2_ne (by omega), u2_ne (by omega), u2_at]; rfl) (by rw [f5 15 (by decide), h3, u2_ne (by omega), u2_at]) (by rw [f5 15 (by decide), h3, u2_at])
  have f5' : ∀ c, c < 15 ∨ 28 < c → I5 c = I c := fun c hc => by rw [f5 c (by omega), kC c (by omega) (by omega)]
  have fin : ∀ I9, CSt b n (pTop b n).2 I9 → ((pTop b n).2.1 = 0 → DrC (pTop b n).1 I9 ∧ WfN (pTop b n).1) → (∀ c, c < 15 ∨ 28 < c → I9 c = I c) → ∃ I', Option.bind (mX5_read_69 N N 0 I9) (fun I33 => some (I33 28 6, I33)) = some (nI (pAll b n).2.1, I') ∧ CSt b n (pAll b n).2 I' ∧ ((pAll b n).2.1 = 0 → DrC (pAll b n).1 I' ∧ WfN (pAll b n).1) ∧ ∀ c, c < 15 ∨ 28 < c → I' c = I c := by
    intro I9 s9 d9 f9
    unfold pAll
    generalize pTop b n = P at s9 d9 ⊢
    obtain ⟨I', e, r1, r2, r3⟩ := c_run hN 701 0 N P.1 P.2 I9 (by omega) s9 (fun q => ⟨by omega, Nat.zero_le _, (d9 q).1, (d9 q).2⟩)
    generalize pRun b n 701 P.1 P.2 = R at r1 r2 ⊢
    refine ⟨I', ?_, r1, r2, fun c hc => by rw [r3 c hc, f9 c hc]⟩
    rw [show mX5_read_69 N N 0 I9 = some I' from e, ob_some, r1.2.2.1]
  unfold mX5_read
  rw [if_neg (show ¬ (700 : Int32) < nI n from nI_nlt (a := 700) hn7 (by omega)), ← h1, nm_n]
  unfold mX4_clear_15
  rw [ob_some, ← h3, e5, ob_some]
  by_cases hw : isW 0 5 b (st0 b n).2.2
  · rw [(c_wd0 hN s5).1 hw, ob_some, if_neg (by decide)]
    obtain ⟨I11, e11, s11, f11⟩ := c_adv hN s5 rfl
    obtain ⟨r13, I14, e14, s14, v14, f14⟩ := c_num (lo := 2) (hi := 8) (a2 := 2) (a3 := 8) hN s11 (fun _ => ⟨rfl, rfl⟩) (by omega) (by omega)
    obtain ⟨I16, e16, s16, f16⟩ := c_sem hN (s14.u (c := 15) (j := 0) (v := r13) (by decide) (by decide))
    rw [e11, ob_some, e14, ob_some]
    dsimp only
    rw [e16, ob_some, ob_some]
    have hp : pTop b n = (nt0 (acc b n (st0 b n)).2.2.2.2.2, rTop b n) := by unfold pTop; rw [if_pos hw]
    have k15 : ∀ j, j ≠ 0 → I16 15 j = I5 15 j := fun j hj => by rw [f16 15 (by decide), u2_ne (by omega), f14 15 (by decide), f11 15 (by decide)]
    have k150 : I16 15 0 = r13 := by rw [f16 15 (by decide), u2_at]
    have s16' : CSt b n (rTop b n) I16 := s16
    have d16 : (rTop b n).1 = 0 → DrC (nt0 (acc b n (st0 b n)).2.2.2.2.2) I16 ∧ WfN (nt0 (acc b n (st0 b n)).2.2.2.2.2) := fun q => by
      have q2 := rTop_0 q
      have q3 := rNum_0 q2
      exact ⟨dc_0 (by rw [k150]; exact v14 q2) (by rw [k15 1 (by omega)]; exact d5.2.1) (by rw [k15 2 (by omega)]; exact d5.2.2.1), wf_0 q3.2.2.2.1 q3.2.2.2.2⟩
    have f16' : ∀ c, c < 15 ∨ 28 < c → I16 c = I c := fun c hc => by rw [f16 c (by omega), u2_c (by omega), f14 c (by omega), f11 c (by omega), f5' c hc]
    refine fin I16 ?_ ?_ f16'
    · rw [hp]
      generalize rTop b n = z at s16' ⊢
      exact s16'
    · rw [hp]
      generalize nt0 (acc b n (st0 b n)).2.2.2.2.2 = w at d16 ⊢
      generalize rTop b n = z at d16 ⊢
      exact d16
  · rw [(c_wd0 hN s5).2 hw, ob_some, if_pos rfl, ob_some]
    have hp : pTop b n = (nt0 2, st0 b n) := by unfold pTop; rw [if_neg hw]
    refine fin I5 ?_ ?_ f5'
    · rw [hp]; exact s5
    · rw [hp]; exact fun _ => ⟨d5, wf_0 (by omega) (by omega)⟩
/-! the draft becomes the network -/
theorem cp_st {k0 k1 M : Nat} {m : Int32} (hm : m.toNatClampNeg = M) : ∃ I', I' = updRow I k1 (va_cpy (I k0) (I k1) (0 : Int32).toNatClampNeg (0 : Int32).toNatClampNeg m.toNatClampNeg) ∧ (∀ j, j < M → I' k1 j = I k0 j) ∧ ∀ c, c ≠ k1 → I' c = I c := by
  refine ⟨_, rfl, fun j hj => ?_, fun c hc => ?_⟩
  · unfold updRow
    rw [if_pos rfl, hm, show (0 : Int32).toNatClampNeg = 0 from rfl, pk_cpy_in (Nat.zero_le _) (by omega), Nat.zero_add, Nat.sub_zero]
  · unfold updRow
    rw [if_neg hc]
set_option maxHeartbeats 2000000 in
theorem c_net : ∃ I', mX4_copyFrom I = some I' ∧ I' 2 0 = I 15 0 ∧ I' 2 1 = I 15 1 ∧ I' 2 2 = I 15 2 ∧ (∀ k, k < 5 → ∀ l, l < 16 → I' (3 + k) l = I (16 + k) l) ∧ (∀ k, k < 7 → ∀ t, t < 9 → I' (8 + k) t = I (21 + k) t) ∧ ∀ c, c < 2 ∨ 14 < c → I' c = I c := by
  obtain ⟨I3, h3⟩ : ∃ I3, I3 = upd2 (upd2 (upd2 I 2 0 (I 15 0)) 2 1 ((upd2 I 2 0 (I 15 0)) 15 1)) 2 2 ((upd2 (upd2 I 2 0 (I 15 0)) 2 1 ((upd2 I 2 0 (I 15 0)) 15 1)) 15 2) := ⟨_, rfl⟩
  have g3 : ∀ c, c ≠ 2 → I3 c = I c := fun c hc => by rw [h3, u2_c hc, u2_c hc, u2_c hc]
  have a0 : I3 2 0 = I 15 0 := by rw [h3, u2_ne (by omega), u2_ne (by omega), u2_at]
  have a1 : I3 2 1 = I 15 1 := by rw [h3, u2_ne (by omega), u2_at, u2_c (by decide)]
  have a2 : I3 2 2 = I 15 2 := by rw [h3, u2_at, u2_c (by decide), u2_c (by decide)]
  obtain ⟨I5, h5, p5, f5⟩ := cp_st (I := I3) (k0 := 16) (k1 := 3) (m := 16) (M := 16) rfl
  obtain ⟨I7, h7, p7, f7⟩ := cp_st (I := I5) (k0 := 17) (k1 := 4) (m := 16) (M := 16) rfl
  obtain ⟨I9, h9, p9, f9⟩ := cp_st (I := I7) (k0 := 18) (k1 := 5) (m := 16) (M := 16) rfl
  obtain ⟨I11, h11, p11, f11⟩ := cp_st (I := I9) (k0 := 19) (k1 := 6) (m := 16) (M := 16) rfl
  obtain ⟨I13, h13, p13, f13⟩ := cp_st (I := I11) (k0 := 20) (k1 := 7) (m := 16) (M := 16) rfl
  obtain ⟨I15, h15, p15, f15⟩ := cp_st (I := I13) (k0 := 21) (k1 := 8) (m := 9) (M := 9) rfl
  obtain ⟨I17, h17, p17, f17⟩ := cp_st (I := I15) (k0 := 22) (k1 := 9) (m := 9) (M := 9) rfl
  obtain ⟨I19, h19, p19, f19⟩ := cp_st (I := I17) (k0 := 23) (k1 := 10) (m := 9) (M := 9) rfl
  obtain ⟨I21, h21, p21, f21⟩ := cp_st (I := I19) (k0 := 24) (k1 := 11) (m := 9) (M := 9) rfl
  obtain ⟨I23, h23, p23, f23⟩ := cp_st (I := I21) (k0 := 25) (k1 := 12) (m := 9) (M := 9) rfl
  obtain ⟨I25, h25, p25, f25⟩ := cp_st (I := I23) (k0 := 26) (k1 := 13) (m := 9) (M := 9) rfl
  obtain ⟨I27, h27, p27, f27⟩ := cp_st (I := I25) (k0 := 27) (k1 := 14) (m := 9) (M := 9) rfl
  refine ⟨I27, ?_, ?_, ?_, ?_, fun k hk l hl => ?_, fun k hk l hl => ?_, fun c hc => ?_⟩
  · unfold mX4_copyFrom
    rw [nm_n, nm_n, ← h3, nm_n, ← h5, nm_n, ← h7, nm_n, ← h9, nm_n, ← h11, nm_n, ← h13, nm_n, ← h15, nm_n, ← h17, nm_n, ← h19, nm_n, ← h21, nm_n, ← h23, nm_n, ← h25, nm_n, ← h27]
  · rw [f27 2 (by decide), f25 2 (by decide), f23 2 (by decide), f21 2 (by decide), f19 2 (by decide), f17 2 (by decide), f15 2 (by decide), f13 2 (by decide), f11 2 (by decide), f9 2 (by decide), f7 2 (by decide), f5 2 (by decide), a0]
  · rw [f27 2 (by decide), f25 2 (by decide), f23 2 (by decide), f21 2 (by decide), f19 2 (by decide), f17 2 (by decide), f15 2 (by decide), f13 2 (by decide), f11 2 (by decide), f9 2 (by decide), f7 2 (by decide), f5 2 (by decide), a1]
  · rw [f27 2 (by decide), f25 2 (by decide), f23 2 (by decide), f21 2 (by decide), f19 2 (by decide), f17 2 (by decide), f15 2 (by decide), f13 2 (by decide), f11 2 (by decide), f9 2 (by decide), f7 2 (by decide), f5 2 (by decide), a2]
  · have hj5 : k = 0 ∨ k = 1 ∨ k = 2 ∨ k = 3 ∨ k = 4 := by omega
    have up : ∀ c, c < 8 → I27 c = I13 c := fun c hc => by rw [f27 c (by omega), f25 c (by omega), f23 c (by omega), f21 c (by omega), f19 c (by omega), f17 c (by omega), f15 c (by omega)]
    rw [up _ (by omega)]
    rcases hj5 with rfl | rfl | rfl | rfl | rfl
    · rw [f13 _ (by omega), f11 _ (by omega), f9 _ (by omega), f7 _ (by omega)]
      exact (p5 l hl).trans (by rw [g3 16 (by decide)])
    · rw [f13 _ (by omega), f11 _ (by omega), f9 _ (by omega)]
      exact (p7 l hl).trans (by rw [f5 17 (by decide), g3 17 (by decide)])
    · rw [f13 _ (by omega), f11 _ (by omega)]
      exact (p9 l hl).trans (by rw [f7 18 (by decide), f5 18 (by decide), g3 18 (by decide)])
    · rw [f13 _ (by omega)]
      exact (p11 l hl).trans (by rw [f9 19 (by decide), f7 19 (by decide), f5 19 (by decide), g3 19 (by decide)])
    · exact (p13 l hl).trans (by rw [f11 20 (by decide), f9 20 (by decide), f7 20 (by decide), f5 20 (by decide), g3 20 (by decide)])
  · have hj5 : k = 0 ∨ k = 1 ∨ k = 2 ∨ k = 3 ∨ k = 4 ∨ k = 5 ∨ k = 6 := by omega
    have dn : ∀ c, 14 < c → I13 c = I c := fun c hc => by rw [f13 c (by omega), f11 c (by omega), f9 c (by omega), f7 c (by omega), f5 c (by omega), g3 c (by omega)]
    rcases hj5 with rfl | rfl | rfl | rfl | rfl | rfl | rfl
    · rw [f27 _ (by omega), f25 _ (by omega), f23 _ (by omega), f21 _ (by omega), f19 _ (by omega), f17 _ (by omega)]
      exact (p15 l hl).trans (by rw [dn 21 (by omega)])
    · rw [f27 _ (by omega), f25 _ (by omega), f23 _ (by omega), f21 _ (by omega), f19 _ (by omega)]
      exact (p17 l hl).trans (by rw [f15 22 (by decide), dn 22 (by omega)])
    · rw [f27 _ (by omega), f25 _ (by omega), f23 _ (by omega), f21 _ (by omega)]
      exact (p19 l hl).trans (by rw [f17 23 (by decide), f15 23 (by decide), dn 23 (by omega)])
    · rw [f27 _ (by omega), f25 _ (by omega), f23 _ (by omega)]
      exact (p21 l hl).trans (by rw [f19 24 (by decide), f17 24 (by decide), f15 24 (by decide), dn 24 (by omega)])
    · rw [f27 _ (by omega), f25 _ (by omega)]
      exact (p23 l hl).trans (by rw [f21 25 (by decide), f19 25 (by decide), f17 25 (by decide), f15 25 (by decide), dn 25 (by omega)])
    · rw [f27 _ (by omega)]
      exact (p25 l hl).trans (by rw [f23 26 (by decide), f21 26 (by decide), f19 26 (by decide), f17 26 (by decide), f15 26 (by decide), dn 26 (by omega)])
    · exact (p27 l hl).trans (by rw [f25 27 (by decide), f23 27 (by decide), f21 27 (by decide), f19 27 (by decide), f17 27 (by decide), f15 27 (by decide), dn 27 (by omega)])
  · rw [f27 c (by omega), f25 c (by omega), f23 c (by omega), f21 c (by omega), f19 c (by omega), f17 c (by omega), f15 c (by omega), f13 c (by omega), f11 c (by omega), f9 c (by omega), f7 c (by omega), f5 c (by omega), g3 c (by omega)]
theorem c_begin {u : Nat} (hN : 100 ≤ N) (hu : 14 < u) : ∃ I', mX8_begin N u I = some I' ∧ I' u 2 = ((1 : Int32) <<< ((I 2 1) &&& 31)) - 1 ∧ (∀ t, t < 9 → I' (u + 1) t = 0 ∧ I' (u + 2) t = I 10 t) ∧ ∀ c, c ≠ u → c ≠ u + 1 → c ≠ u + 2 → I' c = I c := by
  obtain ⟨I', hP, e⟩ := loopP (F := fun n s i => mX8_begin_2 u n i s) (b := 9) (out := id)
    (P := fun k s => (∀ c, c ≠ u + 1 → c ≠ u + 2 → s c = I c) ∧ ∀ t, t < k → s (u + 1) t = 0 ∧ s (u + 2) t = I 10 t)
    (fun n s _ => by
      show mX8_begin_2 u (n + 1) (nI 9) s = some s
      rw [mX8_begin_2, if_pos (by decide)])
    (fun n k s hk hP => by
      refine ⟨upd2 (upd2 s (u + 1) k 0) (u + 2) k (I 10 k), ?_, fun c h1 h2 => by rw [u2_c h2, u2_c h1]; exact hP.1 c h1 h2, fun t ht => ?_⟩
      · show mX8_begin_2 u (n + 1) (nI k) s = mX8_begin_2 u n (nI (k + 1)) _
        rw [mX8_begin_2, show (9 : Int32) = nI 9 from rfl, if_neg (nI_ge hk (by omega)), ck_n (by omega) (by decide), nI_clamp (by omega), nm_n, nI_1, u2_c (show 10 ≠ u + 1 by omega), hP.1 10 (by omega) (by omega)]
      · by_cases h9 : t = k
        · subst h9; rw [u2_at, u2_c (by omega), u2_at]; exact ⟨rfl, rfl⟩
        · rw [u2_ne (by omega), u2_ne (by omega), u2_ne (by omega), u2_ne (by omega)]; exact hP.2 t (by omega))
    N 0 I (Nat.zero_le _) (by omega) ⟨fun _ _ _ => rfl, fun t h => by omega⟩
  have e3 : I' 2 = I 2 := hP.1 _ (by omega) (by omega)
  refine ⟨upd2 I' u 2 (((1 : Int32) <<< ((I 2 1) &&& 31)) - 1), ?_, u2_at, fun t ht => ?_, fun c h0 h1 h2 => by rw [u2_c h0]; exact hP.1 c h1 h2⟩
  · unfold mX8_begin
    rw [show mX8_begin_2 u N 0 I = some I' from e, ob_some, e3]
  · rw [u2_c (by omega), u2_c (by omega)]; exact hP.2 t ht
end CTop
