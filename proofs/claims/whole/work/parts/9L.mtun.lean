/-! a tunnel, in the reference -/
section MTuns
variable {b : Nat → Nat} {n N : Nat} {I : gI} {J : gJ} {s : RdS} {ν : Nt}
set_option maxHeartbeats 2000000 in
theorem m_tun (hN : 2000 ≤ N) (h : MSt b n (acc b n s) I J) (hD : DrM ν I) (hn : WfN ν) (hl : ν.tn < 9) : ∃ I' J', mX11_readsTunnel N I J = some (I', J') ∧ MSt b n (tu7 b n ν.nn s) I' J' ∧ ((tu7 b n ν.nn s).1 = 0 → DrM (addT ν (tuV b n ν.nn s)) I') ∧ FrL I I' J J' := by
  have hnn := hn.2.1
  obtain ⟨l, hll⟩ : ∃ l, l = ν.tn := ⟨_, rfl⟩
  rw [← hll] at hl
  have h18 : I 310 18 = nI l := by rw [hll]; exact hD.2.2.1
  have c0 : (7 : Int32) * (I 310 18) = nI (7 * l) := by rw [h18, show (7 : Int32) = nI 7 from rfl, nI_mul]
  have c1 : nI (7 * l) + 1 = nI (7 * l + 1) := nI_1 _
  have c2 : nI (7 * l) + 2 = nI (7 * l + 2) := by rw [show (2 : Int32) = nI 2 from rfl, nI_add]
  have c3 : nI (7 * l) + 3 = nI (7 * l + 3) := by rw [show (3 : Int32) = nI 3 from rfl, nI_add]
  have c4 : nI (7 * l) + 4 = nI (7 * l + 4) := by rw [show (4 : Int32) = nI 4 from rfl, nI_add]
  have c5 : nI (7 * l) + 5 = nI (7 * l + 5) := by rw [show (5 : Int32) = nI 5 from rfl, nI_add]
  have c6 : nI (7 * l) + 6 = nI (7 * l + 6) := by rw [show (6 : Int32) = nI 6 from rfl, nI_add]
  obtain ⟨r1, I2, J3, e1, s1, v1, f1⟩ := m_nod (nn := ν.nn) (x := -1) (a2 := -1) hN h (fun _ => ⟨hD.1, rfl⟩) (by omega)
  obtain ⟨A2, hA2⟩ : ∃ A2, A2 = upd2 I2 316 (7 * l) r1 := ⟨_, rfl⟩
  have s1' : MSt b n (lk1 b n ν.nn s) A2 J3 := by rw [hA2, lk1_c]; exact s1.u (by decide) (Or.inl (by decide))
  obtain ⟨r8, I9, J10, e8, s8, v8, f8⟩ := m_nod (nn := ν.nn) (x := nI (acc b n s).2.2.2.2.2) (a2 := r1) hN s1' (fun q => ⟨by rw [hA2, u2_c (by decide), f1.2.1 16 (by omega)]; exact hD.1, v1 (by rw [← lk1_c]; exact q)⟩) (by omega)
  obtain ⟨A9, hA9⟩ : ∃ A9, A9 = upd2 I9 316 (7 * l + 1) r8 := ⟨_, rfl⟩
  have s8' : MSt b n (lk2 b n ν.nn s) A9 J10 := by rw [hA9, lk2_c]; exact s8.u (by decide) (Or.inl (by decide))
  obtain ⟨r13, I14, J15, e13, s13, v13, f13⟩ := m_num (lo := 1) (hi := 99) (a2 := 1) (a3 := 99) hN s8' (fun _ => ⟨rfl, rfl⟩) (by omega) (by omega)
  obtain ⟨A14, hA14⟩ : ∃ A14, A14 = upd2 I14 316 (7 * l + 2) r13 := ⟨_, rfl⟩
  have s13' : MSt b n (lk3 b n ν.nn s) A14 J15 := by rw [hA14, lk3_c]; exact s13.u (by decide) (Or.inl (by decide))
  obtain ⟨r18, I19, J20, e18, s18, v18, f18⟩ := m_num (lo := 0) (hi := 7) (a2 := 0) (a3 := 7) hN s13' (fun _ => ⟨rfl, rfl⟩) (by omega) (by omega)
  obtain ⟨A19, hA19⟩ : ∃ A19, A19 = upd2 I19 316 (7 * l + 3) r18 := ⟨_, rfl⟩
  have s18' : MSt b n (tu4 b n ν.nn s) A19 J20 := by rw [hA19, tu4_c]; exact s18.u (by decide) (Or.inl (by decide))
  obtain ⟨r25, I26, J27, e25, s25, v25, f25⟩ := m_num (lo := 0) (hi := (lk3 b n ν.nn s).2.2.2.2.2) (a2 := 0) (a3 := r18) hN s18' (fun q => ⟨rfl, v18 (by rw [← tu4_c]; exact q)⟩) (by omega) s13'.v
  obtain ⟨A26, hA26⟩ : ∃ A26, A26 = upd2 (upd2 (upd2 I26 316 (7 * l + 4) r25) 316 (7 * l + 5) 0) 316 (7 * l + 6) 7 := ⟨_, rfl⟩
  have s25' : MSt b n (tu5 b n ν.nn s) A26 J27 := by rw [hA26, tu5_c]; exact ((s25.u (by decide) (Or.inl (by decide))).u (by decide) (Or.inl (by decide))).u (by decide) (Or.inl (by decide))
  have k3 : ∀ j, j < 3 ∨ 11 < j → A26 310 j = I 310 j := fun j hj => by
    rw [hA26, u2_c (by decide), u2_c (by decide), u2_c (by decide), f25.2.1 j hj, hA19, u2_c (by decide), f18.2.1 j hj, hA14, u2_c (by decide), f13.2.1 j hj, hA9, u2_c (by decide), f8.2.1 j hj, hA2, u2_c (by decide), f1.2.1 j hj]
  have kC : ∀ c, c ≠ 310 → c ≠ 316 → A26 c = I c := fun c h1 h2 => by
    rw [hA26, u2_c h2, u2_c h2, u2_c h2, f25.1 c h1, hA19, u2_c h2, f18.1 c h1, hA14, u2_c h2, f13.1 c h1, hA9, u2_c h2, f8.1 c h1, hA2, u2_c h2, f1.1 c h1]
  have kJ : J27 337 = J 337 := by rw [f25.2.2, f18.2.2, f13.2.2, f8.2.2, f1.2.2]
  have key : A26 316 = upd2 (upd2 (upd2 (upd2 (upd2 (upd2 (upd2 I 316 (7 * l) r1) 316 (7 * l + 1) r8) 316 (7 * l + 2) r13) 316 (7 * l + 3) r18) 316 (7 * l + 4) r25) 316 (7 * l + 5) 0) 316 (7 * l + 6) 7 316 := by
    rw [hA26]
    apply u2_r
    apply u2_r
    apply u2_r
    rw [f25.1 316 (by decide), hA19]
    apply u2_r
    rw [f18.1 316 (by decide), hA14]
    apply u2_r
    rw [f13.1 316 (by decide), hA9]
    apply u2_r
    rw [f8.1 316 (by decide), hA2]
    apply u2_r
    rw [f1.1 316 (by decide)]
  have a5 : A26 316 (7 * l + 5) = 0 := by rw [hA26, u2_ne (by omega), u2_at]
  have a6 : A26 316 (7 * l + 6) = 7 := by rw [hA26, u2_at]
  have tail : ∀ I36 J37, MSt b n (tu7 b n ν.nn s) I36 J37 → ((tu7 b n ν.nn s).1 = 0 → I36 316 (7 * l + 5) = nI (tuV b n ν.nn s 5) ∧ I36 316 (7 * l + 6) = nI (tuV b n ν.nn s 6)) → (∀ c, c ≠ 310 → c ≠ 316 → I36 c = A26 c) → (∀ i, i ≠ 7 * l + 5 → i ≠ 7 * l + 6 → I36 316 i = A26 316 i) → (∀ j, j < 3 ∨ 11 < j → I36 310 j = A26 310 j) → J37 337 = J27 337 → ∃ I' J', Option.bind (mX11_isGood I36) (fun r56 => if r56 = 0 then (some (I36, J37)) else (some (upd2 I36 310 18 ((I36 310 18) + 1), J37))) = some (I', J') ∧ MSt b n (tu7 b n ν.nn s) I' J' ∧ ((tu7 b n ν.nn s).1 = 0 → DrM (addT ν (tuV b n ν.nn s)) I') ∧ FrL I I' J J' := by
    intro I36 J37 s36 v36 g1 g2 g3 g4
    have m3 : ∀ j, j < 3 ∨ 11 < j → I36 310 j = I 310 j := fun j hj => (g3 j hj).trans (k3 j hj)
    have mC : ∀ c, c ≠ 310 → c ≠ 316 → I36 c = I c := fun c h1 h2 => (g1 c h1 h2).trans (kC c h1 h2)
    have mJ : J37 337 = J 337 := g4.trans kJ
    by_cases q7 : (tu7 b n ν.nn s).1 = 0
    · refine ⟨upd2 I36 310 18 (nI (l + 1)), J37, ?_, s36.u (by decide) (Or.inr (by decide)), fun _ => ?_, ⟨fun c h1 h2 h3 => by rw [u2_c h1]; exact mC c h1 h3, fun j hj => by rw [u2_ne (by omega)]; exact m3 j (by omega), mJ⟩⟩
      · rw [m_good1 s36 q7, ob_some, if_neg (by decide), m3 18 (by omega), h18, nI_1]
      · have q6 : (tu6 b n ν.nn s).1 = 0 := by
          have q7' := q7
          unfold tu7 at q7'
          by_cases hk : (tu5 b n ν.nn s).2.2.1 = 2
          · rw [if_pos hk] at q7'; exact rOpt_0 q7'
          · rw [if_neg hk] at q7'; exact q7'
        have q5 : (tu5 b n ν.nn s).1 = 0 := rOpt_0 (by rw [← tu6_c]; exact q6)
        have q4 : (tu4 b n ν.nn s).1 = 0 := (rNum_0 (by rw [← tu5_c]; exact q5)).1
        have q3 : (lk3 b n ν.nn s).1 = 0 := (rNum_0 (by rw [← tu4_c]; exact q4)).1
        have q2 : (lk2 b n ν.nn s).1 = 0 := (rNum_0 (by rw [← lk3_c]; exact q3)).1
        have q1 : (lk1 b n ν.nn s).1 = 0 := (rNod_0 (by rw [← lk2_c]; exact q2)).1
        refine ⟨?_, ?_, ?_, fun t ht j hj => ?_, fun l' hl' j hj => ?_⟩
        · rw [u2_ne (by omega), m3 16 (by omega)]; exact hD.1
        · rw [u2_ne (by omega), m3 17 (by omega)]; exact hD.2.1
        · show _ = nI (ν.tn + 1)
          rw [u2_at, hll]
        · rw [u2_c (by decide), mC 314 (by decide) (by decide)]
          exact hD.2.2.2.1 t ht j hj
        · have hl2 : l' < ν.tn + 1 := hl'
          show _ = nI (if l' = ν.tn then tuV b n ν.nn s j else ν.T l' j)
          rw [u2_c (by decide)]
          by_cases e : l' = ν.tn
          · rw [if_pos e, e, ← hll]
            have hj5 : j = 0 ∨ j = 1 ∨ j = 2 ∨ j = 3 ∨ j = 4 ∨ j = 5 ∨ j = 6 := by omega
            rcases hj5 with rfl | rfl | rfl | rfl | rfl | rfl | rfl
            · rw [g2 _ (by omega) (by omega), key, u2_ne (by omega), u2_ne (by omega), u2_ne (by omega), u2_ne (by omega), u2_ne (by omega), u2_ne (by omega), Nat.add_zero, u2_at, tuV_0]; exact v1 (by rw [← lk1_c]; exact q1)
            · rw [g2 _ (by omega) (by omega), key, u2_ne (by omega), u2_ne (by omega), u2_ne (by omega), u2_ne (by omega), u2_ne (by omega), u2_at, tuV_1]; exact v8 (by rw [← lk2_c]; exact q2)
            · rw [g2 _ (by omega) (by omega), key, u2_ne (by omega), u2_ne (by omega), u2_ne (by omega), u2_ne (by omega), u2_at, tuV_2]; exact v13 (by rw [← lk3_c]; exact q3)
            · rw [g2 _ (by omega) (by omega), key, u2_ne (by omega), u2_ne (by omega), u2_ne (by omega), u2_at, tuV_3]; exact v18 (by rw [← tu4_c]; exact q4)
            · rw [g2 _ (by omega) (by omega), key, u2_ne (by omega), u2_ne (by omega), u2_at, tuV_4]; exact v25 (by rw [← tu5_c]; exact q5)
            · exact (v36 q7).1
            · exact (v36 q7).2
          · rw [if_neg e, g2 _ (by omega) (by omega), key, u2_ne (by omega), u2_ne (by omega), u2_ne (by omega), u2_ne (by omega), u2_ne (by omega), u2_ne (by omega), u2_ne (by omega)]
            exact hD.2.2.2.2 l' (by omega) j hj
    · refine ⟨I36, J37, ?_, s36, fun q => absurd q q7, ⟨fun c h1 h2 h3 => mC c h1 h3, fun j hj => m3 j (by omega), mJ⟩⟩
      rw [m_good0 s36 q7, ob_some, if_pos rfl]
  unfold mX11_readsTunnel
  rw [c0, c1, c2, c3, c4, c5, c6, nI_clamp (n := 7 * l) (by omega), nI_clamp (n := 7 * l + 1) (by omega), nI_clamp (n := 7 * l + 2) (by omega), nI_clamp (n := 7 * l + 3) (by omega), nI_clamp (n := 7 * l + 4) (by omega), nI_clamp (n := 7 * l + 5) (by omega), nI_clamp (n := 7 * l + 6) (by omega), e1, ob_some]
  dsimp only
  rw [ck_n (by omega) (by decide), nm_n, u2_at, ← hA2, e8, ob_some]
  dsimp only
  rw [ck_n (by omega) (by decide), ← hA9, e13, ob_some]
  dsimp only
  rw [ck_n (by omega) (by decide), ← hA14, e18, ob_some]
  dsimp only
  rw [ck_n (by omega) (by decide), nm_n, u2_at, ← hA19, e25, ob_some]
  dsimp only
  rw [ck_n (by omega) (by decide), ck_n (by omega) (by decide), nm_n, ck_n (by omega) (by decide), ← hA26]
  by_cases q5 : (tu5 b n ν.nn s).1 = 0
  · rw [m_good1 s25' q5, ob_some, if_neg (by decide), nm_n]
    by_cases hk : (tu5 b n ν.nn s).2.2.1 = 2
    · obtain ⟨r42, I43, J44, e42, s42, v42, f42⟩ := m_num (lo := 0) (hi := 15) (a2 := 0) (a3 := 15) hN s25' (fun _ => ⟨rfl, rfl⟩) (by omega) (by omega)
      have hr6 : tu6 b n ν.nn s = rNum b n 0 15 (tu5 b n ν.nn s) := by rw [tu6_c, rOpt_2 hk]
      have h7 : tu7 b n ν.nn s = rOpt b n 1 7 (tu6 b n ν.nn s) := by unfold tu7; rw [if_pos hk]
      obtain ⟨A43, hA43⟩ : ∃ A43, A43 = upd2 I43 316 (7 * l + 5) r42 := ⟨_, rfl⟩
      have s42' : MSt b n (tu6 b n ν.nn s) A43 J44 := by rw [hA43, hr6]; exact s42.u (by decide) (Or.inl (by decide))
      have b5 : (tu6 b n ν.nn s).1 = 0 → A43 316 (7 * l + 5) = nI (tuV b n ν.nn s 5) := fun q => by
        rw [hr6] at q
        rw [hA43, u2_at, v42 q, tuV_5a hk]
      have b6 : A43 316 (7 * l + 6) = 7 := by rw [hA43, u2_ne (by omega), f42.1 316 (by decide), a6]
      have bC : ∀ c, c ≠ 310 → c ≠ 316 → A43 c = A26 c := fun c h1 h2 => by rw [hA43, u2_c h2, f42.1 c h1]
      have bI : ∀ i, i ≠ 7 * l + 5 → i ≠ 7 * l + 6 → A43 316 i = A26 316 i := fun i h1 h2 => by rw [hA43, u2_ne (by omega), f42.1 316 (by decide)]
      have b3 : ∀ j, j < 3 ∨ 11 < j → A43 310 j = A26 310 j := fun j hj => by rw [hA43, u2_c (by decide), f42.2.1 j hj]
      rw [if_pos ((s25'.k (x := 2) (k := 2) rfl (by omega)).mpr hk), e42, ob_some]
      dsimp only
      rw [← hA43]
      by_cases q6 : (tu6 b n ν.nn s).1 = 0
      · rw [m_good1 s42' q6, ob_some, if_neg (by decide), nm_n]
        by_cases hk2 : (tu6 b n ν.nn s).2.2.1 = 2
        · obtain ⟨r52, I53, J54, e52, s52, v52, f52⟩ := m_num (lo := 1) (hi := 7) (a2 := 1) (a3 := 7) hN s42' (fun _ => ⟨rfl, rfl⟩) (by omega) (by omega)
          rw [if_pos ((s42'.k (x := 2) (k := 2) rfl (by omega)).mpr hk2), e52, ob_some]
          dsimp only
          rw [ob_some]
          dsimp only
          refine tail _ J54 (by rw [h7, rOpt_2 hk2]; exact s52.u (by decide) (Or.inl (by decide))) (fun q => ?_) (fun c h1 h2 => by rw [u2_c h2, f52.1 c h1]; exact bC c h1 h2) (fun i h1 h2 => by rw [u2_ne (by omega), f52.1 316 (by decide)]; exact bI i h1 h2) (fun j hj => by rw [u2_c (by decide), f52.2.1 j hj]; exact b3 j hj) (by rw [f52.2.2, f42.2.2])
          rw [h7, rOpt_2 hk2] at q
          refine ⟨?_, ?_⟩
          · rw [u2_ne (by omega), f52.1 316 (by decide)]; exact b5 q6
          · rw [u2_at, v52 q, tuV_6a hk hk2]
        · rw [if_neg (fun q => hk2 ((s42'.k (x := 2) (k := 2) rfl (by omega)).mp q)), ob_some]
          dsimp only
          refine tail A43 J44 (by rw [h7, rOpt_n hk2]; exact s42') (fun q => ⟨b5 q6, ?_⟩) bC bI b3 f42.2.2
          rw [b6, tuV_6b (fun q => hk2 q.2)]; rfl
      · rw [m_good0 s42' q6, ob_some, if_pos rfl, ob_some]
        dsimp only
        have h7' : tu7 b n ν.nn s = tu6 b n ν.nn s := by rw [h7, rOpt_b q6]
        refine tail A43 J44 (by rw [h7']; exact s42') (fun q => ?_) bC bI b3 f42.2.2
        rw [h7'] at q
        exact absurd q q6
    · have h7 : tu7 b n ν.nn s = tu5 b n ν.nn s := by unfold tu7; rw [if_neg hk, tu6_c, rOpt_n hk]
      rw [if_neg (fun q => hk ((s25'.k (x := 2) (k := 2) rfl (by omega)).mp q)), ob_some]
      dsimp only
      refine tail A26 J27 (by rw [h7]; exact s25') (fun q => ⟨?_, ?_⟩) (fun _ _ _ => rfl) (fun _ _ _ => rfl) (fun _ _ => rfl) rfl
      · rw [a5, tuV_5b hk]; rfl
      · rw [a6, tuV_6b (fun q => hk q.1)]; rfl
  · have h6 : tu6 b n ν.nn s = tu5 b n ν.nn s := by rw [tu6_c, rOpt_b q5]
    have h7 : tu7 b n ν.nn s = tu5 b n ν.nn s := by
      unfold tu7
      rw [h6, rOpt_b q5, ite_self]
    rw [m_good0 s25' q5, ob_some, if_pos rfl, ob_some]
    dsimp only
    refine tail A26 J27 (by rw [h7]; exact s25') (fun q => ?_) (fun _ _ _ => rfl) (fun _ _ _ => rfl) (fun _ _ => rfl) rfl
    rw [h7] at q
    exact absurd q q5
end MTuns
