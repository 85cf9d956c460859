/-! acts: what they have in common -/
theorem ix1' (t : Nat) : (1 : Int32) + nI t = nI (1 + t) := by rw [show (1 : Int32) = nI 1 from rfl, nI_add]
theorem ix10' (t : Nat) : (10 : Int32) + nI t = nI (10 + t) := by rw [show (10 : Int32) = nI 10 from rfl, nI_add]
section ActsS
variable {ν : Nt} {σ σ' : St} {ks : List St} {vs : List (Nat → Nat)} {N c : Nat} {I I1 I2 : gI}
theorem Pk_ref {a b : Nat} (h : Pk ν σ ks vs I) (hs : ∀ c j, Kp c j → ¬ (c = 0 ∧ j = a) → ¬ (c = 312 ∧ j = b) → I1 c j = I c j) (ha : 3 ≤ a ∧ a ≤ 5) (hk : Ctr I1) : Pk ν σ ks vs I1 := by
  have h0 : Sm I (upd2 (upd2 I1 0 a (I 0 a)) 312 b (I 312 b)) := by
    intro c j k
    by_cases e1 : c = 312 ∧ j = b
    · obtain ⟨rfl, rfl⟩ := e1; exact u2_at
    · rw [u2_ne e1]
      by_cases e2 : c = 0 ∧ j = a
      · obtain ⟨rfl, rfl⟩ := e2; exact u2_at
      · rw [u2_ne e2]; exact hs c j k e2 e1
  have h1 : Sm2 I I1 := fun c j k => hs c j (kp2_kp k) (by unfold Kp2 at k; omega) (by unfold Kp2 at k; omega)
  obtain ⟨hn, g, c1, m1, c2, m2, ac, sg, im, tp, ct⟩ := h
  have c2' := c2.sm h0 (Or.inl rfl)
  have m2' := MS.sm hn (g.wf hn) m2 h0 (by omega)
  have ac' := ac.sm hn h0 (by omega)
  refine ⟨hn, g, c1.sm2 h1, m1.sm2 h1, c2'.eq ?_ ?_ ?_, m2'.c ?_, ⟨ac'.1, ac'.2.1, ac'.2.2.1.fr (fun c _ _ => ?_), Rows.fr hn ac'.2.1 ac'.2.2.2 ?_ ?_⟩, sg.sm2 h1 (by omega), im.sm2 hn h1, tp.sm2 h1, hk⟩
  · rw [u2_c (by decide), u2_c (by decide)]
  · rw [u2_c (by decide), u2_c (by decide)]
  · rw [u2_c (by decide), u2_c (by decide)]
  · rw [u2_c (by decide), u2_c (by decide)]
  · rw [u2_c (by omega), u2_c (by omega)]
  · rw [u2_c (by decide), u2_c (by decide)]
  · rw [u2_c (by decide), u2_c (by decide)]
/-- an act is refused -/
theorem Inv_ref (h : Pk ν σ ks vs I) (mv : Mv c I) (s1 : Sm I I1) (s2 : Sm (upd2 I1 0 4 (I1 0 4 + 1)) I2) : Inv (c + 1) (upd2 I2 312 1 (I2 312 1 + 1)) := by
  have ct := h.2.2.2.2.2.2.2.2.2.2
  have key : ∀ c j, Kp c j → ¬ (c = 0 ∧ j = 4) → ¬ (c = 312 ∧ j = 1) → (upd2 I2 312 1 (I2 312 1 + 1)) c j = I c j := by
    intro c j k e1 e2
    rw [u2_ne e2, s2 c j k, u2_ne e1, s1 c j k]
  refine ⟨⟨ν, σ, ks, vs, Pk_ref h key (by omega) ?_⟩, ?_⟩
  · refine ⟨?_, ?_, ?_, ?_⟩
    · rw [key 310 4 (by unfold Kp; omega) (by omega) (by omega), key 0 2 (by unfold Kp; omega) (by omega) (by omega)]; exact ct.1
    · rw [key 312 0 (by unfold Kp; omega) (by omega) (by omega), key 0 3 (by unfold Kp; omega) (by omega) (by omega)]; exact ct.2.1
    · rw [u2_at, u2_c (by decide), s2 0 4 (by unfold Kp; omega), u2_at, s2 312 1 (by unfold Kp; omega), u2_c (by decide), s1 312 1 (by unfold Kp; omega), s1 0 4 (by unfold Kp; omega), ct.2.2.1]
    · rw [key 312 2 (by unfold Kp; omega) (by omega) (by omega), key 0 5 (by unfold Kp; omega) (by omega) (by omega)]; exact ct.2.2.2
  · refine (mv.sm2 (fun c j k => ?_)).up
    exact key c j (kp2_kp k) (by unfold Kp2 at k; omega) (by unfold Kp2 at k; omega)
/-- an act is done -/
theorem act_fin (h : Pk ν σ ks vs I) (mv : Mv c I) (hi : ∀ c, 310 ≤ c → I1 c = I c) (s1 : Sm2 I I1) (z1 : I1 0 = I 0) (lo : ∀ c, c < 310 → I2 c = I1 c) (s2 : Sm2 I1 I2) (z2 : I2 312 = I1 312) (hg : Gd ν σ') (cs : CS ν 36 σ' I1) (ms : MS ν 317 0 σ' I2) (rg : Ring ν 51 53 (kpS ks σ) I1) (rw' : Rows ν 318 25 (kpS ks σ) I2) : Inv (c + 1) I2 := by
  obtain ⟨hn, g, c1, m1, c2, m2, ac, sg, im, tp, ct⟩ := h
  have s12 := s1.tr s2
  refine ⟨⟨ν, σ', kpS ks σ, vs, hn, hg, c1.sm2 s12, m1.sm2 s12, cs.eq (lo _ (by omega)) (lo _ (by omega)) (lo _ (by omega)), ms, ⟨(kpS_len ac.1).2, ?_, rg.fr (fun c _ _ => lo c (by omega)), rw'⟩, sg.sm2 s12 (by omega), im.sm2 hn s12, tp.sm2 s12, ?_⟩, (mv.sm2 s12).up⟩
  · intro k hk
    unfold kpS at hk
    rcases List.mem_append.mp hk with hk | hk
    · split at hk
      · exact ac.2.1 k (List.mem_of_mem_tail hk)
      · exact ac.2.1 k hk
    · rw [List.mem_singleton.mp hk]; exact g
  · have e0 : I2 0 = I 0 := (lo 0 (by omega)).trans z1
    have e3 : I2 312 = I 312 := z2.trans (hi 312 (by omega))
    refine ⟨?_, ?_, ?_, ?_⟩
    · rw [s12 310 4 (by unfold Kp2; omega), e0]; exact ct.1
    · rw [e3, e0]; exact ct.2.1
    · rw [e3, e0]; exact ct.2.2.1
    · rw [e3, e0]; exact ct.2.2.2
theorem m_refuses : mX11_refuses 1 I = some (-1, upd2 I 312 1 (I 312 1 + 1)) := rfl
end ActsS
section SetUp
variable {N : Nat}
set_option maxHeartbeats 1000000 in
theorem s_setUp (hN : 100000000000 ≤ N) : St_setUp N Inv := by
  intro c I J a1 hc hInv
  obtain ⟨⟨ν, σ, ks, vs, hP⟩, mv⟩ := id hInv
  obtain ⟨hn, g, c1, m1, c2, m2, ac, sg, im, tp, ct⟩ := id hP
  have htn := hn.2.2.2.1
  have hww := g.wf hn
  rcases tun_ck hn a1 with ⟨t, ht, rfl, eC, eM⟩ | ⟨eC, eM⟩
  · have s0 : ∀ {K : gI}, Sm K (upd2 K 310 0 0) := Sm.rf.u0
    have hT := hn.2.2.2.2.2 t ht
    have e37 : I 37 t = wb (σ.w t) := (c2.2 t ht).1
    have baseC : mX10_setUp N (nI t) I = if wb (σ.w t) = 0 then (Option.bind (mX2_bestNow N 36 (nI t) I) (fun (r8, I9) => if r8 = 0 then (Option.bind (mX10_refuseAct I9) (fun (r17, I18) => some (.inl r17, I18))) else (Option.bind (mX0_keep N 36 I9) (fun I12 => Option.bind (mX2_settle N 36 (nI (2 ^ t)) I12) (fun (r14, I15) => some (.inl r14, I15)))))) else (Option.bind (mX10_refuseAct I) (fun (r5, I6) => some (.inl r5, I6))) := by
      unfold mX10_setUp
      rw [eC I c1, lb_l, ck_n (by omega) (by decide), nI_clamp (by omega), e37, sh1_n t (by omega)]
    have baseM : ∀ K : gI, NetM ν K → MS ν 317 0 σ K → mX11_setUp N (nI t) K = if σ.w t = [] then Option.bind (mX11_hasBest N 0 (nI t) (nI (σ.bd t)) (upd2 K 310 0 0)) (fun (r12, I13) => if r12 = 0 then (Option.bind (mX11_refuses 1 I13) (fun (r20, I21) => some (r20, I21))) else (Option.bind (mX11_keeps N I13) (fun I16 => Option.bind (mX11_settles N 0 (nI (2 ^ t)) (upd2 I16 310 36 0)) (fun I18 => some (I18 310 36, I18))))) else some (-1, upd2 (upd2 K 310 0 0) 312 1 ((upd2 K 310 0 0) 312 1 + 1)) := by
      intro K hm hk
      have hk' : MS ν 317 0 σ (upd2 K 310 0 0) := hk.c (u2_c (by decide))
      have q : (upd2 K 310 0 0) 317 (1 + t) = nI (σ.bd t) := by have := (hk'.2 t ht).1; rwa [Nat.zero_add] at this
      have d : mX11_doesStand 0 (nI t) (upd2 K 310 0 0) = some (if σ.w t = [] then 0 else 1) := m_stand (b := 0) hn hk' hww (by omega) ht
      unfold mX11_setUp
      rw [eM _ (hm.sm s0) u2_at, ob_some]
      dsimp only
      rw [if_neg (by decide), d, ob_some]
      by_cases hst : σ.w t = []
      · rw [if_pos hst, if_pos rfl, if_pos hst, ix1', ck_n (by omega) (by decide), nI_clamp (by omega), q, sh1_n t (by omega)]
      · rw [if_neg hst, if_neg (by decide), if_neg hst, m_refuses, ob_some]
    by_cases hst : σ.w t = []
    · obtain ⟨I9, q, eq, fq, hq⟩ := c_bw (N := N) (u := 36) (t := t) (bd := σ.bd t) (p := ν.T t 3) hn c1 c2 (by omega) hww (by omega) ht (g.1 t ht).2.1 hT.2.2.2.2.2.1
      have eB : mX2_bestNow N 36 (nI t) I = some (wb q, I9) := by
        unfold mX2_bestNow
        rw [ck_n (by omega) (by decide), nI_clamp (by omega), (c2.2 t ht).2, show I 11 t = nI (ν.T t 3) from c1.2.2.2.2 t ht 3 (by decide), eq, ob_some]
      have c9 := c1.fr fq (by simp)
      have cs9 := c2.fr fq (by simp) (by simp) (by simp)
      have sm9 : Sm I I9 := Sm.fr fq (by simp [sc])
      have hP9 := hP.sm sm9
      by_cases hq0 : q = []
      · -- no way
        have hN9 : NetM ν (upd2 I9 0 4 (I9 0 4 + 1)) := (hP9.2.2.2.1).fr (X := [0]) (Fr.rf.u2 (by simp)) (by simp) (by simp) (by simp)
        have hM9 : MS ν 317 0 σ (upd2 I9 0 4 (I9 0 4 + 1)) := hP9.2.2.2.2.2.1.c (u2_c (by decide))
        obtain ⟨I13, q', hq', fB, hres⟩ := m_hasBest (N := N) (b := 0) hn (hN9.sm s0) (hM9.c (u2_c (by decide)) : MS ν 317 0 σ (upd2 (upd2 I9 0 4 (I9 0 4 + 1)) 310 0 0)) hww (by omega) hN ht (g.1 t ht).2.1
        obtain rfl := bst_one hn ht hq hq'
        rcases hres with ⟨hne, -⟩ | ⟨-, e, -⟩
        · exact absurd hq0 hne
        refine ⟨.inl (-1), upd2 I9 0 4 (I9 0 4 + 1), -1, upd2 I13 312 1 (I13 312 1 + 1), ?_, (fun E h => by cases h), ?_, ?_, (fun v h => by cases h; rfl), Inv_ref hP mv sm9 (s0.tr (Sm.fb fB))⟩
        · rw [baseC, if_pos (by rw [hst]; rfl), eB, ob_some]
          dsimp only
          rw [if_pos (by rw [hq0]; rfl)]
          rfl
        · rw [baseM _ hN9 hM9, if_pos hst, show mX11_hasBest N 0 (nI t) (nI (σ.bd t)) (upd2 (upd2 I9 0 4 (I9 0 4 + 1)) 310 0 0) = some (0, I13) from e, ob_some]
          dsimp only
          rw [if_pos rfl, m_refuses, ob_some]
        · rw [u2_c (by decide), fB.2 0 (by simp), u2_at]; rfl
      · obtain ⟨I12, e12, rg12, cs12, f12⟩ := c_keep (N := N) hn (by omega) ac.1 hP9.2.2.2.2.2.2.1.2.2.1 cs9
        have hpow : (2 : Nat) ^ t < 2 ^ ν.tn := Nat.pow_lt_pow_right (by decide) ht
        have c12 : NetC ν I12 := by
          refine ⟨by rw [f12 2 (by omega)]; exact c9.1, by rw [f12 2 (by omega)]; exact c9.2.1, by rw [f12 2 (by omega)]; exact c9.2.2.1, fun l hl j hj => by rw [f12 _ (by omega)]; exact c9.2.2.2.1 l hl j hj, fun t ht j hj => by rw [f12 _ (by omega)]; exact c9.2.2.2.2 t ht j hj⟩
        obtain ⟨n, σ', I15, e15, hS, cs15, g15, f15, -, -⟩ := c_settle (N := N) (u := 36) hn (by omega) (by omega) g c12 cs12 hpow
        have hi : ∀ c, 310 ≤ c → I15 c = I c := fun c hc => by rw [f15 c (by simp; omega), f12 c (by omega), fq c (by simp; omega)]
        have s15 : Sm2 I I15 := by
          intro c j k
          have k' := k
          unfold Kp2 at k'
          rw [f15 c (by simp; omega), f12 c (by omega), fq c (by simp; omega)]
        have hN15 : NetM ν I15 := m1.sm2 s15
        have hM15 : MS ν 317 0 σ I15 := m2.c (hi 317 (by omega))
        have hR15 : Rows ν 318 25 ks I15 := Rows.fr hn ac.2.1 ac.2.2.2 (hi 318 (by omega)) (by rw [hi 310 (by omega)])
        obtain ⟨I13, q', hq', fB, hres⟩ := m_hasBest (N := N) (b := 0) hn (hN15.sm s0) (hM15.c (u2_c (by decide)) : MS ν 317 0 σ (upd2 I15 310 0 0)) hww (by omega) hN ht (g.1 t ht).2.1
        obtain rfl := bst_one hn ht hq hq'
        rcases hres with ⟨-, e, -, -⟩ | ⟨hne, -⟩
        rotate_left
        · exact absurd hne hq0
        have hM13 : MS ν 317 0 σ I13 := (hM15.c (u2_c (by decide)) : MS ν 317 0 σ (upd2 I15 310 0 0)).c (fB.1 317 (by simp))
        have hR13 : Rows ν 318 25 ks I13 := Rows.fr hn ac.2.1 hR15 (by rw [fB.1 318 (by simp), u2_c (by decide)]) (by rw [fB.2 25 (by simp), u2_ne (by omega)])
        obtain ⟨I16, e16, hR16, f16, k16⟩ := m_keep (N := N) hn (by omega) ac.1 ac.2.1 hR13 hww hM13
        have lo16 : ∀ c, c < 310 → I16 c = I15 c := fun c hc => by rw [f16 c (by omega) (by omega), fB.1 c (by simp; omega), u2_c (by omega)]
        have s16 : Sm2 I15 (upd2 I16 310 36 0) := by
          refine Sm2.u ?_ (by unfold Kp2; omega)
          intro c j k
          by_cases h310 : c = 310
          · subst h310
            rw [k16 j (by unfold Kp2 at k; omega), fB.2 j (by unfold Kp2 at k; simp; omega), u2_ne (by unfold Kp2 at k; omega)]
          · rw [f16 c (by unfold Kp2 at k; omega) h310, fB.1 c (by unfold Kp2 at k; simp; omega), u2_c h310]
        have hN16 : NetM ν (upd2 I16 310 36 0) := hN15.sm2 s16
        have hM16 : MS ν 317 0 σ (upd2 I16 310 36 0) := hM13.c (by rw [u2_c (by decide), f16 317 (by decide) (by decide)])
        obtain ⟨I18, e18, hM18, f18, k18⟩ := m_settle (N := N) (b := 0) hn hN (by omega) g hN16 hM16 hpow hS
        refine ⟨.inl (nI n), I15, nI n, I18, ?_, (fun E h => by cases h), ?_, ?_, (fun v h => by cases h; rfl), act_fin hP mv hi s15 ?_ ?_ (s16.tr (Sm2.fs f18)) ?_ g15 cs15 hM18 (rg12.fr (fun c h1 h2 => f15 c (by simp; omega))) ?_⟩
        · rw [baseC, if_pos (by rw [hst]; rfl), eB, ob_some]
          dsimp only
          rw [if_neg (fun h => hq0 ((wb_0 hn (bst_ln hq)).mp h)), e12, ob_some, e15, ob_some]
        · rw [baseM _ hN15 hM15, if_pos hst, show mX11_hasBest N 0 (nI t) (nI (σ.bd t)) (upd2 I15 310 0 0) = some (1, I13) from e, ob_some]
          dsimp only
          rw [if_neg (by decide), e16, ob_some, show mX11_settles N 0 (nI (2 ^ t)) (upd2 I16 310 36 0) = some I18 from e18, ob_some, k18, u2_at, Int32.zero_add]
        · rw [f18.2.1 0 (by simp), u2_ne (by omega), k16 0 (by omega), fB.2 0 (by simp), u2_at]; rfl
        · rw [f15 0 (by simp), f12 0 (by omega), fq 0 (by simp)]
        · intro c hc; rw [f18.1 c (by simp; omega), u2_c (by omega), lo16 c hc]
        · rw [f18.1 312 (by simp), u2_c (by decide), f16 312 (by decide) (by decide), fB.1 312 (by simp), u2_c (by decide)]
        · refine Rows.fr hn ?_ hR16 (by rw [f18.1 318 (by simp), u2_c (by decide)]) (by rw [f18.2.1 25 (by simp), u2_ne (by omega)])
          intro k hk
          unfold kpS at hk
          rcases List.mem_append.mp hk with hk | hk
          · split at hk
            · exact ac.2.1 k (List.mem_of_mem_tail hk)
            · exact ac.2.1 k hk
          · rw [List.mem_singleton.mp hk]; exact g
    · have hwb : ¬ wb (σ.w t) = 0 := fun h => hst ((wb_0 hn (hww t ht).2.2).mp h)
      have hN1 : NetM ν (upd2 I 0 4 (I 0 4 + 1)) := m1.fr (X := [0]) (Fr.rf.u2 (by simp)) (by simp) (by simp) (by simp)
      have hM1 : MS ν 317 0 σ (upd2 I 0 4 (I 0 4 + 1)) := m2.c (u2_c (by decide))
      refine ⟨.inl (-1), upd2 I 0 4 (I 0 4 + 1), -1, _, ?_, (fun E h => by cases h), by rw [baseM _ hN1 hM1, if_neg hst], ?_, (fun v h => by cases h; rfl), Inv_ref hP mv Sm.rf s0⟩
      · rw [baseC, if_neg hwb]; rfl
      · rw [u2_c (by decide), u2_at]; rfl
  · refine ⟨.inr xnN, I, 0, upd2 (upd2 I 310 0 0) 310 0 1, ?_, (fun E h => by cases h; rfl), ?_, u2_at, (fun v h => by cases h), hInv.sm (Sm.rf.u0.u0)⟩
    · unfold mX10_setUp
      rw [eC I c1, lb_r]
    · unfold mX11_setUp
      rw [eM _ (m1.sm Sm.rf.u0) u2_at, ob_some]
      dsimp only
      rw [if_pos rfl]
end SetUp
