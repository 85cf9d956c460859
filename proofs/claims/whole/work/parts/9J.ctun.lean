/-! a tunnel, in the class -/
section CTuns
variable {b : Nat → Nat} {n N : Nat} {I : gI} {s : RdS} {ν : Nt}
set_option maxHeartbeats 2000000 in
theorem c_tun (hN : 2000 ≤ N) (h : CSt b n s I) (h0 : s.1 = 0) (hD : DrC ν I) (hn : WfN ν) (hl : ν.tn < 9) : ∃ I', mX5_readTunnel N (nI ν.tn) I = some I' ∧ CSt b n (tu8 b n ν.nn s) I' ∧ ((tu8 b n ν.nn s).1 = 0 → DrC (addT ν (tuV b n ν.nn s)) I') ∧ ∀ c, c < 15 ∨ 28 < c → I' c = I c := by
  have hnn := hn.2.1
  obtain ⟨l, hll⟩ : ∃ l, l = ν.tn := ⟨_, rfl⟩
  rw [← hll] at hl ⊢
  obtain ⟨I2, e2, s2, f2⟩ := c_adv hN h h0
  have n2 : I2 15 0 = nI ν.nn := by rw [f2 15 (by decide)]; exact hD.1
  obtain ⟨r4, I5, e5, s5, v5, f5⟩ := c_nod (nn := ν.nn) (x := -1) (a2 := I2 15 0) (a3 := -1) hN s2 (fun _ => ⟨n2, rfl⟩) (by omega)
  obtain ⟨A5, hA5⟩ : ∃ A5, A5 = upd2 I5 21 l r4 := ⟨_, rfl⟩
  have s5' : CSt b n (lk1 b n ν.nn s) A5 := by rw [hA5]; rw [lk1_c]; exact s5.u (by decide) (by decide)
  obtain ⟨r8, I9, e9, s9, v9, f9⟩ := c_nod (nn := ν.nn) (x := nI (acc b n s).2.2.2.2.2) (a2 := A5 15 0) (a3 := A5 21 l) hN s5' (fun q => ⟨by rw [hA5, u2_c (by decide), f5 15 (by decide), n2], by rw [hA5, u2_at]; exact v5 (by rw [← lk1_c]; exact q)⟩) (by omega)
  obtain ⟨A9, hA9⟩ : ∃ A9, A9 = upd2 I9 22 l r8 := ⟨_, rfl⟩
  have s9' : CSt b n (lk2 b n ν.nn s) A9 := by rw [hA9]; rw [lk2_c]; exact s9.u (by decide) (by decide)
  obtain ⟨r11, I12, e12, s12, v12, f12⟩ := c_num (lo := 1) (hi := 99) (a2 := 1) (a3 := 99) hN s9' (fun _ => ⟨rfl, rfl⟩) (by omega) (by omega)
  obtain ⟨A12, hA12⟩ : ∃ A12, A12 = upd2 I12 23 l r11 := ⟨_, rfl⟩
  have s12' : CSt b n (lk3 b n ν.nn s) A12 := by rw [hA12]; rw [lk3_c]; exact s12.u (by decide) (by decide)
  obtain ⟨r14, I15, e15, s15, v15, f15⟩ := c_num (lo := 0) (hi := 7) (a2 := 0) (a3 := 7) hN s12' (fun _ => ⟨rfl, rfl⟩) (by omega) (by omega)
  obtain ⟨A15, hA15⟩ : ∃ A15, A15 = upd2 I15 24 l r14 := ⟨_, rfl⟩
  have s15' : CSt b n (tu4 b n ν.nn s) A15 := by rw [hA15]; rw [tu4_c]; exact s15.u (by decide) (by decide)
  obtain ⟨r17, I18, e18, s18, v18, f18⟩ := c_num (lo := 0) (hi := (lk3 b n ν.nn s).2.2.2.2.2) (a2 := 0) (a3 := A15 24 l) hN s15' (fun q => ⟨rfl, by rw [hA15, u2_at]; exact v15 (by rw [← tu4_c]; exact q)⟩) (by omega) s12'.v
  obtain ⟨A18, hA18⟩ : ∃ A18, A18 = upd2 I18 25 l r17 := ⟨_, rfl⟩
  have s18' : CSt b n (tu5 b n ν.nn s) A18 := by rw [hA18]; rw [tu5_c]; exact s18.u (by decide) (by decide)
  have tail : ∀ x22 x28 I23 I29, CSt b n (tu7 b n ν.nn s) I29 → ((tu7 b n ν.nn s).1 = 0 → x22 = nI (tuV b n ν.nn s 5) ∧ x28 = nI (tuV b n ν.nn s 6)) → (∀ c, c ≠ 28 → I23 c = A18 c) → (∀ c, c ≠ 28 → I29 c = upd2 I23 26 l x22 c) → ∃ I', Option.bind (mX5_semicolon N (upd2 I29 27 l x28)) (fun I35 => some (upd2 I35 15 2 (nI l + 1))) = some I' ∧ CSt b n (tu8 b n ν.nn s) I' ∧ ((tu8 b n ν.nn s).1 = 0 → DrC (addT ν (tuV b n ν.nn s)) I') ∧ ∀ c, c < 15 ∨ 28 < c → I' c = I c := by
    intro x22 x28 I23 I29 s29 v29 f23 f29
    obtain ⟨I35, e35, s35, f35⟩ := c_sem hN (s29.u (c := 27) (j := l) (v := x28) (by decide) (by decide))
    refine ⟨upd2 I35 15 2 (nI (l + 1)), by rw [e35, ob_some, nI_1], by rw [tu8_c]; exact s35.u (by decide) (by decide), ?_, ?_⟩
    · intro q
      have q7 : (tu7 b n ν.nn s).1 = 0 := rSem_0 (by rw [← tu8_c]; exact q)
      have q6 : (tu6 b n ν.nn s).1 = 0 := by
        unfold tu7 at q7
        by_cases hk : (tu5 b n ν.nn s).2.2.1 = 2
        · rw [if_pos hk] at q7; exact rOpt_0 q7
        · rw [if_neg hk] at q7; exact q7
      have q5 : (tu5 b n ν.nn s).1 = 0 := rOpt_0 (by rw [← tu6_c]; exact q6)
      have q4 : (tu4 b n ν.nn s).1 = 0 := (rNum_0 (by rw [← tu5_c]; exact q5)).1
      have q3 : (lk3 b n ν.nn s).1 = 0 := (rNum_0 (by rw [← tu4_c]; exact q4)).1
      have q2 : (lk2 b n ν.nn s).1 = 0 := (rNum_0 (by rw [← lk3_c]; exact q3)).1
      have q1 : (lk1 b n ν.nn s).1 = 0 := (rNod_0 (by rw [← lk2_c]; exact q2)).1
      have key : ∀ c, c ≠ 28 → I35 c = upd2 (upd2 (upd2 (upd2 (upd2 (upd2 (upd2 I 21 l r4) 22 l r8) 23 l r11) 24 l r14) 25 l r17) 26 l x22) 27 l x28 c := by
        intro c hc
        rw [f35 c hc]
        apply u2_r
        rw [f29 c hc]
        apply u2_r
        rw [f23 c hc, hA18]
        apply u2_r
        rw [f18 c hc, hA15]
        apply u2_r
        rw [f15 c hc, hA12]
        apply u2_r
        rw [f12 c hc, hA9]
        apply u2_r
        rw [f9 c hc, hA5]
        apply u2_r
        rw [f5 c hc, f2 c hc]
      have k15 : I35 15 = I 15 := by rw [key 15 (by decide), u2_c (by decide), u2_c (by decide), u2_c (by decide), u2_c (by decide), u2_c (by decide), u2_c (by decide), u2_c (by decide)]
      refine ⟨?_, ?_, ?_, fun t ht j hj => ?_, fun l' hl' j hj => ?_⟩
      · rw [u2_ne (by omega), k15]; exact hD.1
      · rw [u2_ne (by omega), k15]; exact hD.2.1
      · show _ = nI (ν.tn + 1)
        rw [u2_at, hll]
      · rw [u2_c (by omega), key _ (by omega), u2_ne (by omega), u2_ne (by omega), u2_ne (by omega), u2_ne (by omega), u2_ne (by omega), u2_ne (by omega), u2_ne (by omega)]
        exact hD.2.2.2.1 t ht j hj
      · have hl2 : l' < ν.tn + 1 := hl'
        show _ = nI (if l' = ν.tn then tuV b n ν.nn s j else ν.T l' j)
        rw [u2_c (by omega), key _ (by omega)]
        by_cases e : l' = ν.tn
        · rw [if_pos e, e, ← hll]
          have hj5 : j = 0 ∨ j = 1 ∨ j = 2 ∨ j = 3 ∨ j = 4 ∨ j = 5 ∨ j = 6 := by omega
          rcases hj5 with rfl | rfl | rfl | rfl | rfl | rfl | rfl
          · rw [u2_ne (by omega), u2_ne (by omega), u2_ne (by omega), u2_ne (by omega), u2_ne (by omega), u2_ne (by omega), u2_at]; rw [tuV_0]; exact v5 (by rw [← lk1_c]; exact q1)
          · rw [u2_ne (by omega), u2_ne (by omega), u2_ne (by omega), u2_ne (by omega), u2_ne (by omega), u2_at]; rw [tuV_1]; exact v9 (by rw [← lk2_c]; exact q2)
          · rw [u2_ne (by omega), u2_ne (by omega), u2_ne (by omega), u2_ne (by omega), u2_at]; rw [tuV_2]; exact v12 (by rw [← lk3_c]; exact q3)
          · rw [u2_ne (by omega), u2_ne (by omega), u2_ne (by omega), u2_at]; rw [tuV_3]; exact v15 (by rw [← tu4_c]; exact q4)
          · rw [u2_ne (by omega), u2_ne (by omega), u2_at]; rw [tuV_4]; exact v18 (by rw [← tu5_c]; exact q5)
          · rw [u2_ne (by omega), u2_at]; exact (v29 q7).1
          · rw [u2_at]; exact (v29 q7).2
        · rw [if_neg e, u2_ne (by omega), u2_ne (by omega), u2_ne (by omega), u2_ne (by omega), u2_ne (by omega), u2_ne (by omega), u2_ne (by omega)]
          exact hD.2.2.2.2 l' (by omega) j hj
    · intro c hc
      rw [u2_c (by omega), f35 c (by omega), u2_c (by omega), f29 c (by omega), u2_c (by omega), f23 c (by omega), hA18, u2_c (by omega), f18 c (by omega), hA15, u2_c (by omega), f15 c (by omega), hA12, u2_c (by omega), f12 c (by omega), hA9, u2_c (by omega), f9 c (by omega), hA5, u2_c (by omega), f5 c (by omega), f2 c (by omega)]
  unfold mX5_readTunnel
  rw [if_pos (show nI l < (9 : Int32) from nI_lt (b := 9) hl (by omega)), e2, ob_some, e5, ob_some]
  dsimp only
  rw [ck_n hl (by decide), nI_clamp (by omega), ← hA5, e9, ob_some]
  dsimp only
  rw [← hA9, e12, ob_some]
  dsimp only
  rw [← hA12, e15, ob_some]
  dsimp only
  rw [← hA15, e18, ob_some]
  dsimp only
  rw [← hA18]
  by_cases hk : (tu5 b n ν.nn s).2.2.1 = 2
  · obtain ⟨r25, I26, e26, s26, v26, f26⟩ := c_num (lo := 0) (hi := 15) (a2 := 0) (a3 := 15) hN s18' (fun _ => ⟨rfl, rfl⟩) (by omega) (by omega)
    have hr6 : tu6 b n ν.nn s = rNum b n 0 15 (tu5 b n ν.nn s) := by rw [tu6_c, rOpt_2 hk]
    have s26' : CSt b n (tu6 b n ν.nn s) (upd2 I26 26 l r25) := by rw [hr6]; exact s26.u (by decide) (by decide)
    have h7 : tu7 b n ν.nn s = rOpt b n 1 7 (tu6 b n ν.nn s) := by unfold tu7; rw [if_pos hk]
    rw [if_pos ((s18'.k (x := 2) (k := 2) rfl (by omega)).mpr hk), ob_some, if_neg (by decide), e26, ob_some]
    dsimp only
    rw [ob_some]
    dsimp only
    rw [if_neg (by decide)]
    have v5e : (tu6 b n ν.nn s).1 = 0 → r25 = nI (tuV b n ν.nn s 5) := fun q => by
      rw [hr6] at q
      rw [v26 q]
      rw [tuV_5a hk]
    by_cases hk2 : (tu6 b n ν.nn s).2.2.1 = 2
    · obtain ⟨r32, I33, e33, s33, v33, f33⟩ := c_num (lo := 1) (hi := 7) (a2 := 1) (a3 := 7) hN s26' (fun _ => ⟨rfl, rfl⟩) (by omega) (by omega)
      rw [if_pos ((s26'.k (x := 2) (k := 2) rfl (by omega)).mpr hk2), e33, ob_some]
      dsimp only
      rw [ob_some]
      dsimp only
      refine tail r25 r32 I26 I33 (by rw [h7, rOpt_2 hk2]; exact s33) (fun q => ?_) f26 f33
      rw [h7, rOpt_2 hk2] at q
      refine ⟨v5e (rNum_0 q).1, ?_⟩
      rw [v33 q]
      rw [tuV_6a hk hk2]
    · rw [if_neg (fun q => hk2 ((s26'.k (x := 2) (k := 2) rfl (by omega)).mp q)), ob_some]
      dsimp only
      refine tail r25 7 I26 _ (by rw [h7, rOpt_n hk2]; exact s26') (fun q => ?_) f26 (fun _ _ => rfl)
      rw [h7, rOpt_n hk2] at q
      refine ⟨v5e q, ?_⟩
      rw [tuV_6b (fun q => hk2 q.2)]; rfl
  · have hr6 : tu6 b n ν.nn s = tu5 b n ν.nn s := by rw [tu6_c, rOpt_n hk]
    have h7 : tu7 b n ν.nn s = tu5 b n ν.nn s := by unfold tu7; rw [if_neg hk, hr6]
    rw [if_neg (fun q => hk ((s18'.k (x := 2) (k := 2) rfl (by omega)).mp q)), ob_some, if_pos rfl, ob_some]
    dsimp only
    rw [if_pos rfl, ob_some]
    dsimp only
    refine tail 0 7 A18 _ (by rw [h7]; exact s18'.u (by decide) (by decide)) (fun q => ⟨?_, ?_⟩) (fun _ _ => rfl) (fun _ _ => rfl)
    · rw [tuV_5b hk]; rfl
    · rw [tuV_6b (fun q => hk q.1)]; rfl
end CTuns
