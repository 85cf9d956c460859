/-! a link, a tunnel, in the reference -/
def FrL (I I' : gI) (J J' : gJ) : Prop := (∀ c, c ≠ 310 → c ≠ 314 → c ≠ 316 → I' c = I c) ∧ (∀ j, j < 3 ∨ (11 < j ∧ j < 16) ∨ 18 < j → I' 310 j = I 310 j) ∧ J' 337 = J 337
theorem FrK.l {I I' : gI} {J J' : gJ} (h : FrK I I' J J') : FrL I I' J J' := ⟨fun c h1 _ _ => h.1 c h1, fun j hj => h.2.1 j (by omega), h.2.2⟩
theorem FrL.tr {I I' I'' : gI} {J J' J'' : gJ} (h : FrL I I' J J') (h2 : FrL I' I'' J' J'') : FrL I I'' J J'' := ⟨fun c h1 h3 h4 => (h2.1 c h1 h3 h4).trans (h.1 c h1 h3 h4), fun j hj => (h2.2.1 j hj).trans (h.2.1 j hj), h2.2.2.trans h.2.2⟩
section MLines
variable {b : Nat → Nat} {n N : Nat} {I : gI} {J : gJ} {s : RdS} {ν : Nt}
set_option maxHeartbeats 2000000 in
theorem m_link (hN : 2000 ≤ N) (h : MSt b n (acc b n s) I J) (hD : DrM ν I) (hn : WfN ν) (hl : ν.ln < 16) : ∃ I' J', mX11_readsLink N I J = some (I', J') ∧ MSt b n (lk5 b n ν.nn s) I' J' ∧ ((lk5 b n ν.nn s).1 = 0 → DrM (addL ν (lkV b n ν.nn s)) I') ∧ FrL I I' J J' := by
  have hnn := hn.2.1
  obtain ⟨l, hll⟩ : ∃ l, l = ν.ln := ⟨_, rfl⟩
  rw [← hll] at hl
  have h17 : I 310 17 = nI l := by rw [hll]; exact hD.2.1
  have c0 : (5 : Int32) * (I 310 17) = nI (5 * l) := by rw [h17, show (5 : Int32) = nI 5 from rfl, nI_mul]
  have c1 : nI (5 * l) + 1 = nI (5 * l + 1) := nI_1 _
  have c2 : nI (5 * l) + 2 = nI (5 * l + 2) := by rw [show (2 : Int32) = nI 2 from rfl, nI_add]
  have c3 : nI (5 * l) + 3 = nI (5 * l + 3) := by rw [show (3 : Int32) = nI 3 from rfl, nI_add]
  have c4 : nI (5 * l) + 4 = nI (5 * l + 4) := by rw [show (4 : Int32) = nI 4 from rfl, nI_add]
  obtain ⟨r1, I2, J3, e1, s1, v1, f1⟩ := m_nod (nn := ν.nn) (x := -1) (a2 := -1) hN h (fun _ => ⟨hD.1, rfl⟩) (by omega)
  obtain ⟨A2, hA2⟩ : ∃ A2, A2 = upd2 I2 314 (5 * l) r1 := ⟨_, rfl⟩
  have s1' : MSt b n (lk1 b n ν.nn s) A2 J3 := by rw [hA2, lk1_c]; exact s1.u (by decide) (Or.inl (by decide))
  obtain ⟨r8, I9, J10, e8, s8, v8, f8⟩ := m_nod (nn := ν.nn) (x := nI (acc b n s).2.2.2.2.2) (a2 := r1) hN s1' (fun q => ⟨by rw [hA2, u2_c (by decide), f1.2.1 16 (by omega)]; exact hD.1, v1 (by rw [← lk1_c]; exact q)⟩) (by omega)
  obtain ⟨A9, hA9⟩ : ∃ A9, A9 = upd2 I9 314 (5 * l + 1) r8 := ⟨_, rfl⟩
  have s8' : MSt b n (lk2 b n ν.nn s) A9 J10 := by rw [hA9, lk2_c]; exact s8.u (by decide) (Or.inl (by decide))
  obtain ⟨r13, I14, J15, e13, s13, v13, f13⟩ := m_num (lo := 1) (hi := 99) (a2 := 1) (a3 := 99) hN s8' (fun _ => ⟨rfl, rfl⟩) (by omega) (by omega)
  obtain ⟨A14, hA14⟩ : ∃ A14, A14 = upd2 I14 314 (5 * l + 2) r13 := ⟨_, rfl⟩
  have s13' : MSt b n (lk3 b n ν.nn s) A14 J15 := by rw [hA14, lk3_c]; exact s13.u (by decide) (Or.inl (by decide))
  obtain ⟨r18, I19, J20, e18, s18, v18, f18⟩ := m_num (lo := 1) (hi := 99) (a2 := 1) (a3 := 99) hN s13' (fun _ => ⟨rfl, rfl⟩) (by omega) (by omega)
  obtain ⟨A19, hA19⟩ : ∃ A19, A19 = upd2 I19 314 (5 * l + 3) r18 := ⟨_, rfl⟩
  have s18' : MSt b n (lk4 b n ν.nn s) A19 J20 := by rw [hA19, lk4_c]; exact s18.u (by decide) (Or.inl (by decide))
  have tail : ∀ x25 I26 J27, MSt b n (lk5 b n ν.nn s) I26 J27 → ((lk5 b n ν.nn s).1 = 0 → x25 = nI (lkV b n ν.nn s 4)) → FrK A19 I26 J20 J27 → ∃ I' J', Option.bind (mX11_isGood (upd2 I26 314 (5 * l + 4) x25)) (fun r37 => if r37 = 0 then (some (upd2 I26 314 (5 * l + 4) x25, J27)) else (nm ((upd2 I26 314 (5 * l + 4) x25) 310 17) (fun x40 => nm (upd2 (upd2 I26 314 (5 * l + 4) x25) 310 17 (x40 + 1)) (fun I42 => some (I42, J27))))) = some (I', J') ∧ MSt b n (lk5 b n ν.nn s) I' J' ∧ ((lk5 b n ν.nn s).1 = 0 → DrM (addL ν (lkV b n ν.nn s)) I') ∧ FrL I I' J J' := by
    intro x25 I26 J27 s26 v26 f26
    obtain ⟨A26, hA26⟩ : ∃ A26, A26 = upd2 I26 314 (5 * l + 4) x25 := ⟨_, rfl⟩
    rw [← hA26]
    have s26' : MSt b n (lk5 b n ν.nn s) A26 J27 := by rw [hA26]; exact s26.u (by decide) (Or.inl (by decide))
    have k3 : ∀ j, j < 3 ∨ 11 < j → A26 310 j = I 310 j := fun j hj => by
      rw [hA26, u2_c (by decide), f26.2.1 j hj, hA19, u2_c (by decide), f18.2.1 j hj, hA14, u2_c (by decide), f13.2.1 j hj, hA9, u2_c (by decide), f8.2.1 j hj, hA2, u2_c (by decide), f1.2.1 j hj]
    have kC : ∀ c, c ≠ 310 → c ≠ 314 → A26 c = I c := fun c h1 h2 => by
      rw [hA26, u2_c h2, f26.1 c h1, hA19, u2_c h2, f18.1 c h1, hA14, u2_c h2, f13.1 c h1, hA9, u2_c h2, f8.1 c h1, hA2, u2_c h2, f1.1 c h1]
    have kJ : J27 337 = J 337 := by rw [f26.2.2, f18.2.2, f13.2.2, f8.2.2, f1.2.2]
    by_cases q5 : (lk5 b n ν.nn s).1 = 0
    · refine ⟨upd2 A26 310 17 (nI (l + 1)), J27, ?_, s26'.u (by decide) (Or.inr (by decide)), fun _ => ?_, ⟨fun c h1 h2 h3 => by rw [u2_c h1]; exact kC c h1 h2, fun j hj => by rw [u2_ne (by omega)]; exact k3 j (by omega), kJ⟩⟩
      · rw [m_good1 s26' q5, ob_some, if_neg (by decide), nm_n, nm_n, k3 17 (by omega), h17, nI_1]
      · have q4 : (lk4 b n ν.nn s).1 = 0 := rOpt_0 (by rw [← lk5_c]; exact q5)
        have q3 : (lk3 b n ν.nn s).1 = 0 := (rNum_0 (by rw [← lk4_c]; exact q4)).1
        have q2 : (lk2 b n ν.nn s).1 = 0 := (rNum_0 (by rw [← lk3_c]; exact q3)).1
        have q1 : (lk1 b n ν.nn s).1 = 0 := (rNod_0 (by rw [← lk2_c]; exact q2)).1
        have key : A26 314 = upd2 (upd2 (upd2 (upd2 (upd2 I 314 (5 * l) r1) 314 (5 * l + 1) r8) 314 (5 * l + 2) r13) 314 (5 * l + 3) r18) 314 (5 * l + 4) x25 314 := by
          rw [hA26]
          apply u2_r
          rw [f26.1 314 (by decide), hA19]
          apply u2_r
          rw [f18.1 314 (by decide), hA14]
          apply u2_r
          rw [f13.1 314 (by decide), hA9]
          apply u2_r
          rw [f8.1 314 (by decide), hA2]
          apply u2_r
          rw [f1.1 314 (by decide)]
        refine ⟨?_, ?_, ?_, fun l' hl' j hj => ?_, fun t ht j hj => ?_⟩
        · rw [u2_ne (by omega), k3 16 (by omega)]; exact hD.1
        · show _ = nI (ν.ln + 1)
          rw [u2_at, hll]
        · rw [u2_ne (by omega), k3 18 (by omega)]; exact hD.2.2.1
        · have hl2 : l' < ν.ln + 1 := hl'
          show _ = nI (if l' = ν.ln then lkV b n ν.nn s j else ν.L l' j)
          rw [u2_c (by decide), key]
          by_cases e : l' = ν.ln
          · rw [if_pos e, e, ← hll]
            have hj5 : j = 0 ∨ j = 1 ∨ j = 2 ∨ j = 3 ∨ j = 4 := by omega
            rcases hj5 with rfl | rfl | rfl | rfl | rfl
            · rw [u2_ne (by omega), u2_ne (by omega), u2_ne (by omega), u2_ne (by omega), Nat.add_zero, u2_at, lkV_0]; exact v1 (by rw [← lk1_c]; exact q1)
            · rw [u2_ne (by omega), u2_ne (by omega), u2_ne (by omega), u2_at, lkV_1]; exact v8 (by rw [← lk2_c]; exact q2)
            · rw [u2_ne (by omega), u2_ne (by omega), u2_at, lkV_2]; exact v13 (by rw [← lk3_c]; exact q3)
            · rw [u2_ne (by omega), u2_at, lkV_3]; exact v18 (by rw [← lk4_c]; exact q4)
            · rw [u2_at]; exact v26 q5
          · rw [if_neg e, u2_ne (by omega), u2_ne (by omega), u2_ne (by omega), u2_ne (by omega), u2_ne (by omega)]
            exact hD.2.2.2.1 l' (by omega) j hj
        · rw [u2_c (by decide), kC 316 (by decide) (by decide)]
          exact hD.2.2.2.2 t ht j hj
    · refine ⟨A26, J27, ?_, s26', fun q => absurd q q5, ⟨fun c h1 h2 h3 => kC c h1 h2, fun j hj => k3 j (by omega), kJ⟩⟩
      rw [m_good0 s26' q5, ob_some, if_pos rfl]
  unfold mX11_readsLink
  rw [c0, c1, c2, c3, c4, nI_clamp (n := 5 * l) (by omega), nI_clamp (n := 5 * l + 1) (by omega), nI_clamp (n := 5 * l + 2) (by omega), nI_clamp (n := 5 * l + 3) (by omega), nI_clamp (n := 5 * l + 4) (by omega), e1, ob_some]
  dsimp only
  rw [ck_n (by omega) (by decide), nm_n, u2_at, ← hA2, e8, ob_some]
  dsimp only
  rw [ck_n (by omega) (by decide), ← hA9, e13, ob_some]
  dsimp only
  rw [ck_n (by omega) (by decide), ← hA14, e18, ob_some]
  dsimp only
  rw [ck_n (by omega) (by decide), ← hA19]
  by_cases q4 : (lk4 b n ν.nn s).1 = 0
  · rw [m_good1 s18' q4, ob_some, if_neg (by decide), nm_n]
    by_cases hk : (lk4 b n ν.nn s).2.2.1 = 2
    · obtain ⟨r32, I33, J34, e32, s32, v32, f32⟩ := m_num (lo := 0) (hi := 15) (a2 := 0) (a3 := 15) hN s18' (fun _ => ⟨rfl, rfl⟩) (by omega) (by omega)
      rw [if_pos ((s18'.k (x := 2) (k := 2) rfl (by omega)).mpr hk), e32, ob_some]
      dsimp only
      rw [ob_some]
      dsimp only
      rw [ck_n (by omega) (by decide)]
      refine tail r32 I33 J34 (by rw [lk5_c, rOpt_2 hk]; exact s32) (fun q => ?_) f32
      rw [lk5_c, rOpt_2 hk] at q
      rw [v32 q, lkV_4a hk]
    · rw [if_neg (fun q => hk ((s18'.k (x := 2) (k := 2) rfl (by omega)).mp q)), ob_some]
      dsimp only
      rw [ck_n (by omega) (by decide)]
      refine tail 0 A19 J20 (by rw [lk5_c, rOpt_n hk]; exact s18') (fun q => ?_) FrK.rf
      rw [lkV_4b hk]; rfl
  · rw [m_good0 s18' q4, ob_some, if_pos rfl, ob_some]
    dsimp only
    rw [ck_n (by omega) (by decide)]
    refine tail 0 A19 J20 (by rw [lk5_c, rOpt_b q4]; exact s18') (fun q => ?_) FrK.rf
    rw [lk5_c, rOpt_b q4] at q
    exact absurd q q4
end MLines
