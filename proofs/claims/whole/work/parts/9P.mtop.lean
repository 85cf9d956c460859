/-! the whole text; the reference -/
section MTop
variable {b : Nat → Nat} {n N : Nat} {I : gI} {J : gJ}
set_option maxHeartbeats 2000000 in
theorem m_net {n0 : Nat} (hN : 2000 ≤ N) (hn0 : n ≤ n0) (hn7 : n0 ≤ 700) (h2 : I 310 2 = nI n0) (hb : ∀ j, j < n → b j < 256 ∧ I 311 j = nI (b j)) : ∃ K J', MSt b n (pAll b n).2 K J' ∧ ((pAll b n).2.1 = 0 → DrM (pAll b n).1 K) ∧ (∀ c, c ≠ 310 → c ≠ 314 → c ≠ 316 → K c = I c) ∧ K 310 0 = 0 ∧ K 310 2 = 0 ∧ (∀ j, (11 < j ∧ j < 16) ∨ 18 < j → K 310 j = I 310 j) ∧ J' 337 = J 337 ∧
    mX11_network N (nI n) I J = Option.bind (mX11_isGood K) (fun r42 => if r42 = 0 then (nm (upd2 K 312 (0 : Int32).toNatClampNeg ((K 312 (0 : Int32).toNatClampNeg) + 1)) (fun I67 => some (I67 310 3, I67, J'))) else (nm (upd2 (upd2 K 310 13 (K 310 16)) 310 14 ((upd2 K 310 13 (K 310 16)) 310 17)) (fun I45 => Option.bind (mX11_copies_314_313 N (upd2 I45 310 15 (I45 310 18))) (fun I47 => Option.bind (mX11_copies_316_315 N I47) (fun I49 => nm (upd2 I49 317 (0 : Int32).toNatClampNeg (((1 : Int32) <<< ((I49 310 14) &&& 31)) - 1)) (fun I51 => Option.bind (mX11_network_237 J' N 0 I51) (fun I64 => some (0, upd2 (upd2 (upd2 I64 310 25 0) 310 45 0) 310 48 0, J')))))))) := by
  obtain ⟨I8, h8⟩ : ∃ I8, I8 = upd2 (upd2 (upd2 (upd2 (upd2 (upd2 I 310 0 0) 310 2 0) 310 4 (-1)) 310 3 0) 310 6 (nI n)) 310 7 0 := ⟨_, rfl⟩
  obtain ⟨H, hH⟩ : ∃ H, H = upd2 (upd2 (upd2 I8 310 16 2) 310 17 0) 310 18 0 := ⟨_, rfl⟩
  have kC : ∀ c, c ≠ 310 → H c = I c := fun c hc => by rw [hH, u2_c hc, u2_c hc, u2_c hc, h8, u2_c hc, u2_c hc, u2_c hc, u2_c hc, u2_c hc, u2_c hc]
  have k8 : ∀ j, j < 16 ∨ 18 < j → H 310 j = I8 310 j := fun j hj => by rw [hH, u2_ne (by omega), u2_ne (by omega), u2_ne (by omega)]
  have k0 : H 310 0 = 0 := by rw [k8 0 (by omega), h8, u2_ne (by omega), u2_ne (by omega), u2_ne (by omega), u2_ne (by omega), u2_ne (by omega), u2_at]
  have k2 : H 310 2 = 0 := by rw [k8 2 (by omega), h8, u2_ne (by omega), u2_ne (by omega), u2_ne (by omega), u2_ne (by omega), u2_at]
  have k4 : H 310 4 = -1 := by rw [k8 4 (by omega), h8, u2_ne (by omega), u2_ne (by omega), u2_ne (by omega), u2_at]
  have k3 : H 310 3 = 0 := by rw [k8 3 (by omega), h8, u2_ne (by omega), u2_ne (by omega), u2_at]
  have k6 : H 310 6 = nI n := by rw [k8 6 (by omega), h8, u2_ne (by omega), u2_at]
  have k7 : H 310 7 = nI 0 := by rw [k8 7 (by omega), h8, u2_at]; rfl
  have k16 : H 310 16 = nI 2 := by rw [hH, u2_ne (by omega), u2_ne (by omega), u2_at]; rfl
  have k17 : H 310 17 = 0 := by rw [hH, u2_ne (by omega), u2_at]
  have k18 : H 310 18 = 0 := by rw [hH, u2_at]
  have kr : ∀ j, (11 < j ∧ j < 16) ∨ 18 < j → H 310 j = I 310 j := fun j hj => by rw [k8 j (by omega), h8, u2_ne (by omega), u2_ne (by omega), u2_ne (by omega), u2_ne (by omega), u2_ne (by omega), u2_ne (by omega)]
  have tH : TxM b n H := ⟨by omega, k6, fun j hj => by rw [kC 311 (by decide)]; exact hb j hj⟩
  obtain ⟨I10, J11, e10, t10, x10, f10, g10, j10⟩ := m_goes (N := N) (J := J) hN tH (Nat.zero_le _) k7
  have s10 : MSt b n (st0 b n) I10 J11 := by
    refine ⟨x10, t10, ?_, Nat.zero_le _, ?_, ⟨_, rfl⟩⟩
    · rw [g10 3 (by omega), k3]; rfl
    · rw [g10 4 (by omega), k4]; rfl
  have fr10 : FrL H I10 J J11 := ⟨fun c h1 _ _ => f10 c h1, fun j hj => g10 j (by omega), j10⟩
  have d10 : DrM (nt0 2) I10 := dm_0 (by rw [g10 16 (by omega), k16]) (by rw [g10 17 (by omega), k17]) (by rw [g10 18 (by omega), k18])
  have fin : ∀ I17 J18, MSt b n (pTop b n).2 I17 J18 → ((pTop b n).2.1 = 0 → DrM (pTop b n).1 I17 ∧ WfN (pTop b n).1) → FrL H I17 J J18 → ∃ K J', mX11_network_130 N N I17 J18 = some (K, J') ∧ MSt b n (pAll b n).2 K J' ∧ ((pAll b n).2.1 = 0 → DrM (pAll b n).1 K) ∧ FrL H K J J' := by
    intro I17 J18 s17 d17 f17
    unfold pAll
    generalize pTop b n = P at s17 d17 ⊢
    obtain ⟨K, J', e, r1, r2, r3⟩ := m_run hN 701 N P.1 P.2 I17 J18 (by omega) s17 (fun q => ⟨by omega, (d17 q).1, (d17 q).2⟩)
    exact ⟨K, J', e, r1, r2, f17.tr r3⟩
  have wrap : ∀ K J', FrL H K J J' → (∀ c, c ≠ 310 → c ≠ 314 → c ≠ 316 → K c = I c) ∧ K 310 0 = 0 ∧ K 310 2 = 0 ∧ (∀ j, (11 < j ∧ j < 16) ∨ 18 < j → K 310 j = I 310 j) ∧ J' 337 = J 337 := fun K J' hf => ⟨fun c g1 g2 g3 => by rw [hf.1 c g1 g2 g3, kC c g1], by rw [hf.2.1 0 (by omega), k0], by rw [hf.2.1 2 (by omega), k2], fun j hj => by rw [hf.2.1 j (by omega), kr j hj], hf.2.2⟩
  unfold mX11_network
  rw [if_neg (nI_pos (by omega)), u2_ne (show ¬ (310 = 310 ∧ 2 = 0) by omega), h2, if_neg (nI_nlt hn0 (by omega)), ob_some, m_right1 u2_at, ob_some]
  dsimp only
  rw [if_neg (by decide), ← h8, nm_n, ← hH, e10, ob_some]
  dsimp only
  rw [m_sp0, ob_some]
  by_cases hw : isW 0 5 b (st0 b n).2.2
  · rw [(m_wd0 s10).1 hw, ob_some, if_neg (by decide)]
    obtain ⟨I20, J21, e20, s20, f20⟩ := m_adv hN s10 rfl
    obtain ⟨r23, I24, J25, e23, s23, v23, f23⟩ := m_num (lo := 2) (hi := 8) (a2 := 2) (a3 := 8) hN s20 (fun _ => ⟨rfl, rfl⟩) (by omega) (by omega)
    have s24 : MSt b n (rNum b n 2 8 (acc b n (st0 b n))) (upd2 I24 310 16 r23) J25 := s23.u (by decide) (Or.inr (by decide))
    obtain ⟨x, I29, J30, ex, e29, s29, f29⟩ := m_sem hN s24
    have hp : pTop b n = (nt0 (acc b n (st0 b n)).2.2.2.2.2, rTop b n) := by unfold pTop; rw [if_pos hw]
    have s29' : MSt b n (rTop b n) I29 J30 := s29
    have q16 : I29 310 16 = r23 := by rw [f29.2.1 16 (by omega), u2_at]
    have q17 : I29 310 17 = 0 := by rw [f29.2.1 17 (by omega), u2_ne (by omega), f23.2.1 17 (by omega), f20.2.1 17 (by omega), g10 17 (by omega), k17]
    have q18 : I29 310 18 = 0 := by rw [f29.2.1 18 (by omega), u2_ne (by omega), f23.2.1 18 (by omega), f20.2.1 18 (by omega), g10 18 (by omega), k18]
    have d29 : (rTop b n).1 = 0 → DrM (nt0 (acc b n (st0 b n)).2.2.2.2.2) I29 ∧ WfN (nt0 (acc b n (st0 b n)).2.2.2.2.2) := fun q => by
      have q2 := rTop_0 q
      have q3 := rNum_0 q2
      exact ⟨dm_0 (by rw [q16]; exact v23 q2) q17 q18, wf_0 q3.2.2.2.1 q3.2.2.2.2⟩
    have fu : FrL I24 (upd2 I24 310 16 r23) J25 J25 := ⟨fun c g1 _ _ => u2_c g1, fun j hj => u2_ne (by omega), rfl⟩
    have f29' : FrL H I29 J J30 := (((fr10.tr f20.l).tr f23.l).tr fu).tr f29.l
    obtain ⟨K, J', eK, r1, r2, r3⟩ := fin I29 J30 (by
      rw [hp]
      generalize rTop b n = z at s29' ⊢
      exact s29') (by
      rw [hp]
      generalize nt0 (acc b n (st0 b n)).2.2.2.2.2 = w at d29 ⊢
      generalize rTop b n = z at d29 ⊢
      exact d29) f29'
    obtain ⟨w1, w2, w3, w4, w5⟩ := wrap K J' r3
    refine ⟨K, J', r1, r2, w1, w2, w3, w4, w5, ?_⟩
    rw [e20, ob_some]
    dsimp only
    rw [e23, ob_some]
    dsimp only
    rw [ex, ob_some, e29, ob_some]
    dsimp only
    rw [ob_some]
    dsimp only
    rw [eK, ob_some]
  · rw [(m_wd0 s10).2 hw, ob_some, if_pos rfl, ob_some]
    dsimp only
    have hp : pTop b n = (nt0 2, st0 b n) := by unfold pTop; rw [if_neg hw]
    obtain ⟨K, J', eK, r1, r2, r3⟩ := fin I10 J11 (by rw [hp]; exact s10) (by rw [hp]; exact fun _ => ⟨d10, wf_0 (by omega) (by omega)⟩) fr10
    obtain ⟨w1, w2, w3, w4, w5⟩ := wrap K J' r3
    refine ⟨K, J', r1, r2, w1, w2, w3, w4, w5, ?_⟩
    rw [eK, ob_some]
/-! the draft becomes the network -/
theorem m_cp_314_313 (hN : 4000 ≤ N) : ∃ I', mX11_copies_314_313 N I = some I' ∧ (∀ c, c ≠ 313 → I' c = I c) ∧ ∀ j, j < 80 → I' 313 j = I 314 j := by
  obtain ⟨I', hP, e⟩ := loopP (F := fun n s i => mX11_copies_314_313_2 n i s) (b := 80) (out := id)
    (P := fun k s => (∀ c, c ≠ 313 → s c = I c) ∧ ∀ j, j < k → s 313 j = I 314 j)
    (fun n s _ => by
      show mX11_copies_314_313_2 (n + 1) (nI 80) s = some s
      rw [mX11_copies_314_313_2, if_pos (by decide)])
    (fun n k s hk hP => by
      refine ⟨upd2 s 313 k (I 314 k), ?_, fun c hc => by rw [u2_c hc]; exact hP.1 c hc, fun j hj => ?_⟩
      · show mX11_copies_314_313_2 (n + 1) (nI k) s = mX11_copies_314_313_2 n (nI (k + 1)) _
        rw [mX11_copies_314_313_2, show (80 : Int32) = nI 80 from rfl, if_neg (nI_ge hk (by omega)), ck_n (by omega) (by decide), nI_clamp (by omega), hP.1 314 (by decide), nI_1]
      · by_cases h : j = k
        · subst h; exact u2_at
        · rw [u2_ne (by omega)]; exact hP.2 j (by omega))
    N 0 I (by omega) (by omega) ⟨fun _ _ => rfl, fun j h => by omega⟩
  refine ⟨I', ?_, hP.1, hP.2⟩
  unfold mX11_copies_314_313
  rw [show mX11_copies_314_313_2 N 0 I = some I' from e, ob_some]
theorem m_cp_316_315 (hN : 4000 ≤ N) : ∃ I', mX11_copies_316_315 N I = some I' ∧ (∀ c, c ≠ 315 → I' c = I c) ∧ ∀ j, j < 63 → I' 315 j = I 316 j := by
  obtain ⟨I', hP, e⟩ := loopP (F := fun n s i => mX11_copies_316_315_2 n i s) (b := 63) (out := id)
    (P := fun k s => (∀ c, c ≠ 315 → s c = I c) ∧ ∀ j, j < k → s 315 j = I 316 j)
    (fun n s _ => by
      show mX11_copies_316_315_2 (n + 1) (nI 63) s = some s
      rw [mX11_copies_316_315_2, if_pos (by decide)])
    (fun n k s hk hP => by
      refine ⟨upd2 s 315 k (I 316 k), ?_, fun c hc => by rw [u2_c hc]; exact hP.1 c hc, fun j hj => ?_⟩
      · show mX11_copies_316_315_2 (n + 1) (nI k) s = mX11_copies_316_315_2 n (nI (k + 1)) _
        rw [mX11_copies_316_315_2, show (63 : Int32) = nI 63 from rfl, if_neg (nI_ge hk (by omega)), ck_n (by omega) (by decide), nI_clamp (by omega), hP.1 316 (by decide), nI_1]
      · by_cases h : j = k
        · subst h; exact u2_at
        · rw [u2_ne (by omega)]; exact hP.2 j (by omega))
    N 0 I (by omega) (by omega) ⟨fun _ _ => rfl, fun j h => by omega⟩
  refine ⟨I', ?_, hP.1, hP.2⟩
  unfold mX11_copies_316_315
  rw [show mX11_copies_316_315_2 N 0 I = some I' from e, ob_some]
/-- the state at the start, in the reference -/
theorem m_begin {tn : Nat} (hN : 4000 ≤ N) (ht : I 310 15 = nI tn) (ht9 : tn ≤ 9) : ∃ I', mX11_network_237 J N 0 I = some I' ∧ (∀ c, c ≠ 317 → I' c = I c) ∧ I' 317 0 = I 317 0 ∧ ∀ t, t < 9 → (t < tn → I' 317 (1 + t) = I 315 (7 * t + 2)) ∧ I' 317 (10 + t) = -1 := by
  obtain ⟨I', hP, e⟩ := loopP (F := fun n s i => mX11_network_237 J n i s) (b := 9) (out := id)
    (P := fun k s => (∀ c, c ≠ 317 → s c = I c) ∧ s 317 0 = I 317 0 ∧ ∀ t, t < k → (t < tn → s 317 (1 + t) = I 315 (7 * t + 2)) ∧ s 317 (10 + t) = -1)
    (fun n s _ => by
      show mX11_network_237 J (n + 1) (nI 9) s = some s
      rw [mX11_network_237, if_pos (by decide)])
    (fun n k s hk hP => by
      have c1 : (1 : Int32) + nI k = nI (1 + k) := by rw [show (1 : Int32) = nI 1 from rfl, nI_add]
      have c10 : (10 : Int32) + nI k = nI (10 + k) := by rw [show (10 : Int32) = nI 10 from rfl, nI_add]
      have c7 : (7 : Int32) * nI k + 2 = nI (7 * k + 2) := by rw [show (7 : Int32) = nI 7 from rfl, nI_mul, show (2 : Int32) = nI 2 from rfl, nI_add]
      have h15 : s 310 15 = nI tn := by rw [hP.1 310 (by decide)]; exact ht
      have st : ∀ v : Int32, (k < tn → v = I 315 (7 * k + 2)) → (∀ c, c ≠ 317 → (upd2 (upd2 s 317 (1 + k) v) 317 (10 + k) (-1)) c = I c) ∧ (upd2 (upd2 s 317 (1 + k) v) 317 (10 + k) (-1)) 317 0 = I 317 0 ∧ ∀ t, t < k + 1 → (t < tn → (upd2 (upd2 s 317 (1 + k) v) 317 (10 + k) (-1)) 317 (1 + t) = I 315 (7 * t + 2)) ∧ (upd2 (upd2 s 317 (1 + k) v) 317 (10 + k) (-1)) 317 (10 + t) = -1 := fun v hv => by
        refine ⟨fun c hc => by rw [u2_c hc, u2_c hc]; exact hP.1 c hc, by rw [u2_ne (by omega), u2_ne (by omega)]; exact hP.2.1, fun t ht' => ?_⟩
        by_cases h9 : t = k
        · subst h9
          exact ⟨fun g => by rw [u2_ne (by omega), u2_at]; exact hv g, u2_at⟩
        · have q := hP.2.2 t (by omega)
          exact ⟨fun g => by rw [u2_ne (by omega), u2_ne (by omega)]; exact q.1 g, by rw [u2_ne (by omega), u2_ne (by omega)]; exact q.2⟩
      by_cases hkt : k < tn
      · refine ⟨upd2 (upd2 s 317 (1 + k) (I 315 (7 * k + 2))) 317 (10 + k) (-1), ?_, st _ (fun _ => rfl)⟩
        show mX11_network_237 J (n + 1) (nI k) s = mX11_network_237 J n (nI (k + 1)) _
        rw [mX11_network_237, if_neg (show ¬ (9 : Int32) ≤ nI k from nI_ge (b := 9) hk (by omega)), h15, if_neg (nI_ge hkt (by omega)), c7, c1, c10, ck_n (by omega) (by decide), ck_n (by omega) (by decide), ck_n (by omega) (by decide), nm_n, nI_1, nI_clamp (n := 7 * k + 2) (by omega), nI_clamp (n := 1 + k) (by omega), nI_clamp (n := 10 + k) (by omega), hP.1 315 (by decide)]
      · refine ⟨upd2 (upd2 s 317 (1 + k) 0) 317 (10 + k) (-1), ?_, st _ (fun g => absurd g hkt)⟩
        show mX11_network_237 J (n + 1) (nI k) s = mX11_network_237 J n (nI (k + 1)) _
        rw [mX11_network_237, if_neg (show ¬ (9 : Int32) ≤ nI k from nI_ge (b := 9) hk (by omega)), h15, if_pos (nI_le (by omega) (by omega)), c1, c10, ck_n (by omega) (by decide), ck_n (by omega) (by decide), nm_n, nI_1, nI_clamp (n := 1 + k) (by omega), nI_clamp (n := 10 + k) (by omega)])
    N 0 I (by omega) (by omega) ⟨fun _ _ => rfl, rfl, fun t h => by omega⟩
  exact ⟨I', e, hP.1, hP.2.1, hP.2.2⟩
end MTop
