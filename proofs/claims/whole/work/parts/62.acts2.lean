/-! tear down, mend -/
section Act2
variable {ν : Nt} {σ σ' : St} {ks : List St} {vs : List (Nat → Nat)} {N c : Nat} {I I1 I2 : gI}
theorem kpS_gd (g : Gd ν σ) (h : ∀ k ∈ ks, Gd ν k) : ∀ k ∈ kpS ks σ, Gd ν k := by
  intro k hk
  unfold kpS at hk
  rcases List.mem_append.mp hk with hk | hk
  · split at hk
    · exact h k (List.mem_of_mem_tail hk)
    · exact h k hk
  · rw [List.mem_singleton.mp hk]; exact g
/-- the reference keeps the state, after the class's act and perhaps a look for a way -/
theorem m_act (hN : 4000 ≤ N) (h : Pk ν σ ks vs I) (hi : ∀ c, 310 ≤ c → I1 c = I c) (s1 : Sm2 I I1) (fB : FB (upd2 I1 310 0 0) I2) : ∃ I16, mX11_keeps N I2 = some I16 ∧ Rows ν 318 25 (kpS ks σ) I16 ∧ (∀ c, c < 310 → I16 c = I1 c) ∧ Sm2 I1 I16 ∧ I16 312 = I1 312 ∧ I16 317 = I1 317 ∧ MS ν 317 0 σ I16 ∧ NetM ν I16 ∧ I16 310 0 = 0 ∧ (∀ j, j ≠ 25 → I16 310 j = I2 310 j) ∧ I16 322 = I2 322 := by
  obtain ⟨hn, g, c1, m1, c2, m2, ac, sg, im, tp, ct⟩ := h
  have hM1 : MS ν 317 0 σ I1 := m2.c (hi 317 (by omega))
  have hM2 : MS ν 317 0 σ I2 := hM1.c (by rw [fB.1 317 (by simp), u2_c (by decide)])
  have hR2 : Rows ν 318 25 ks I2 := Rows.fr hn ac.2.1 ac.2.2.2 (by rw [fB.1 318 (by simp), u2_c (by decide), hi 318 (by omega)]) (by rw [fB.2 25 (by simp), u2_ne (by omega), hi 310 (by omega)])
  obtain ⟨I16, e16, hR16, f16, k16⟩ := m_keep (N := N) hn hN ac.1 ac.2.1 hR2 (g.wf hn) hM2
  have s16 : Sm2 I1 I16 := by
    intro c j k
    by_cases h310 : c = 310
    · subst h310
      rw [k16 j (by unfold Kp2 at k; omega), fB.2 j (by unfold Kp2 at k; simp; omega), u2_ne (by unfold Kp2 at k; omega)]
    · rw [f16 c (by unfold Kp2 at k; omega) h310, fB.1 c (by unfold Kp2 at k; simp; omega), u2_c h310]
  refine ⟨I16, e16, hR16, fun c hc => by rw [f16 c (by omega) (by omega), fB.1 c (by simp; omega), u2_c (by omega)], s16, by rw [f16 312 (by decide) (by decide), fB.1 312 (by simp), u2_c (by decide)], by rw [f16 317 (by decide) (by decide), fB.1 317 (by simp), u2_c (by decide)], hM2.c (f16 317 (by decide) (by decide)), (m1.sm2 s1).sm2 s16, by rw [k16 0 (by omega), fB.2 0 (by simp), u2_at], k16, f16 322 (by decide) (by decide)⟩
/-- the class keeps the state -/
theorem c_act (hN : 100 ≤ N) (h : Pk ν σ ks vs I) (fq : Fr [30, 31, 32, 33] I I1) : ∃ I12, mX0_keep N 36 I1 = some I12 ∧ Ring ν 51 53 (kpS ks σ) I12 ∧ CS ν 36 σ I12 ∧ NetC ν I12 ∧ (∀ c, c < 51 ∨ 172 < c → I12 c = I1 c) ∧ Sm2 I I12 ∧ (∀ c, 310 ≤ c → I12 c = I c) ∧ I12 0 = I 0 := by
  obtain ⟨hn, g, c1, m1, c2, m2, ac, sg, im, tp, ct⟩ := h
  have c9 := c1.fr fq (by simp)
  have cs9 := c2.fr fq (by simp) (by simp) (by simp)
  have rg9 : Ring ν 51 53 ks I1 := ac.2.2.1.fr (fun c _ _ => fq c (by simp; omega))
  obtain ⟨I12, e12, rg12, cs12, f12⟩ := c_keep (N := N) hn hN ac.1 rg9 cs9
  refine ⟨I12, e12, rg12, cs12, ?_, f12, ?_, fun c hc => by rw [f12 c (by omega), fq c (by simp; omega)], by rw [f12 0 (by omega), fq 0 (by simp)]⟩
  · exact ⟨by rw [f12 2 (by omega)]; exact c9.1, by rw [f12 2 (by omega)]; exact c9.2.1, by rw [f12 2 (by omega)]; exact c9.2.2.1, fun l hl j hj => by rw [f12 _ (by omega)]; exact c9.2.2.2.1 l hl j hj, fun t ht j hj => by rw [f12 _ (by omega)]; exact c9.2.2.2.2 t ht j hj⟩
  · intro c j k
    have k' := k
    unfold Kp2 at k'
    rw [f12 c (by omega), fq c (by simp; omega)]
theorem rlv_nn {s l : Nat} : 0 ≤ rlv ν σ s l := by
  unfold rlv sS
  have := sm_le (f := fun _ => 0) (g := fun o => if s.testBit o = true then (if l ∈ σ.w o then (σ.bd o : Int) else 0) else 0) (n := ν.tn) (fun k _ => by
    show (0 : Int) ≤ (if s.testBit k = true then (if l ∈ σ.w k then (σ.bd k : Int) else 0) else 0)
    split
    · split <;> omega
    · omega)
  rw [sm_0] at this
  exact this
theorem Gd_dp (hn : WfN ν) (h : Gd ν σ) (s : Nat) : Gd ν (dpW σ s) := by
  refine ⟨fun i hi => ⟨(h.1 i hi).1, (h.1 i hi).2.1, ?_⟩, fun l hl => ?_⟩
  · have ho : ∀ i, opn ν (dpW σ s) i = opn ν σ i := fun _ => rfl
    rw [ho, dpW_w]
    by_cases h1 : s.testBit i = true
    · rw [if_pos h1]; exact Or.inl rfl
    · rw [if_neg h1]; exact (h.1 i hi).2.2
  · rw [pl_dp hn]
    have := h.2 l hl
    have := rlv_nn (ν := ν) (σ := σ) (s := s) (l := l)
    omega
theorem st_dp {t : Nat} : stW σ t [] = dpW σ (2 ^ t) := by
  unfold stW dpW
  congr 1
  funext i
  rw [Nat.testBit_two_pow]
  by_cases h : i = t
  · subst h; simp
  · simp [h, Ne.symm h]
theorem m_up {b l : Nat} (hs : MS ν 317 b σ I) (hb : b ≤ 82) (hl : l < 32) : mX11_isUp (nI b) (nI l) I = some (if bt σ.up l = true then 1 else 0) := by
  unfold mX11_isUp
  rw [Int32.add_zero, ck_n (by omega) (by decide), nI_clamp (by omega), hs.1]
  cases h : bt σ.up l with
  | true => rw [if_pos ((mb1 hl _).mpr h), if_pos rfl]
  | false => rw [if_neg (fun e => by rw [(mb1 hl _).mp e] at h; cases h), if_neg (by decide)]
end Act2
section Steps2
variable {N : Nat}
theorem s_tearDown (hN : 100000000000 ≤ N) : St_tearDown N Inv := by
  intro c I J a1 hc hInv
  obtain ⟨⟨ν, σ, ks, vs, hP⟩, mv⟩ := id hInv
  obtain ⟨hn, g, c1, m1, c2, m2, ac, sg, im, tp, ct⟩ := id hP
  have htn := hn.2.2.2.1
  have hww := g.wf hn
  have s0 : ∀ {K : gI}, Sm K (upd2 K 310 0 0) := Sm.rf.u0
  rcases tun_ck hn a1 with ⟨t, ht, rfl, eC, eM⟩ | ⟨eC, eM⟩
  · have e37 : I 37 t = wb (σ.w t) := (c2.2 t ht).1
    have baseC : mX10_tearDown N (nI t) I = if wb (σ.w t) = 0 then some (.inl 0, upd2 I 0 4 (I 0 4 + 1)) else (Option.bind (mX0_keep N 36 I) (fun I5 => some (.inl 1, upd2 I5 37 t 0))) := by
      unfold mX10_tearDown
      rw [eC I c1, lb_l, ck_n (by omega) (by decide), nI_clamp (by omega), e37]
      rfl
    have baseM : ∀ K : gI, NetM ν K → MS ν 317 0 σ K → mX11_tearDown N (nI t) K = if σ.w t = [] then some (0, upd2 (upd2 K 310 0 0) 312 1 ((upd2 K 310 0 0) 312 1 + 1)) else Option.bind (mX11_keeps N (upd2 K 310 0 0)) (fun I8 => some (1, upd2 I8 317 (10 + t) (-1))) := by
      intro K hm hk
      have hk' : MS ν 317 0 σ (upd2 K 310 0 0) := hk.c (u2_c (by decide))
      have d : mX11_doesStand 0 (nI t) (upd2 K 310 0 0) = some (if σ.w t = [] then 0 else 1) := m_stand (b := 0) hn hk' hww (by omega) ht
      unfold mX11_tearDown
      rw [eM _ (hm.sm s0) u2_at, ob_some]
      dsimp only
      rw [if_neg (by decide), d, ob_some]
      by_cases hst : σ.w t = []
      · rw [if_pos hst, if_pos rfl, if_pos hst, m_refuses, ob_some]
        dsimp only
        rw [if_pos (by decide)]
      · rw [if_neg hst, if_neg (by decide), if_neg hst, ix10']
        congr 1
        funext I8
        rw [ck_n (by omega) (by decide), nI_clamp (by omega)]
    by_cases hst : σ.w t = []
    · have hN1 : NetM ν (upd2 I 0 4 (I 0 4 + 1)) := m1.fr (X := [0]) (Fr.rf.u2 (by simp)) (by simp) (by simp) (by simp)
      have hM1 : MS ν 317 0 σ (upd2 I 0 4 (I 0 4 + 1)) := m2.c (u2_c (by decide))
      refine ⟨.inl 0, upd2 I 0 4 (I 0 4 + 1), 0, _, ?_, (fun E h => by cases h), by rw [baseM _ hN1 hM1, if_pos hst], ?_, (fun v h => by cases h; rfl), Inv_ref hP mv Sm.rf s0⟩
      · rw [baseC, if_pos (by rw [hst]; rfl)]
      · rw [u2_c (by decide), u2_at]; rfl
    · have hwb : ¬ wb (σ.w t) = 0 := fun h => hst ((wb_0 hn (hww t ht).2.2).mp h)
      obtain ⟨I5, e5, rg5, cs5, c5, f5, s5, hi5, z5⟩ := c_act (N := N) (by omega) hP Fr.rf
      have hi : ∀ c, 310 ≤ c → (upd2 I5 37 t 0) c = I c := fun c hc => by rw [u2_c (by omega), hi5 c hc]
      have s1 : Sm2 I (upd2 I5 37 t 0) := s5.u (by unfold Kp2; omega)
      obtain ⟨I8, e8, hR8, lo8, s8, z8, k8, hM8, hN8, h08, -, -⟩ := m_act (N := N) (by omega) hP hi s1 FB.rf
      have hN1 : NetM ν (upd2 I5 37 t 0) := m1.sm2 s1
      have hM1 : MS ν 317 0 σ (upd2 I5 37 t 0) := m2.c (hi 317 (by omega))
      refine ⟨.inl 1, upd2 I5 37 t 0, 1, upd2 I8 317 (10 + t) (-1), ?_, (fun E h => by cases h), ?_, ?_, (fun v h => by cases h; rfl), act_fin (σ' := stW σ t []) hP mv hi s1 (by rw [u2_c (by decide)]; exact z5) (fun c hc => by rw [u2_c (by omega)]; exact lo8 c hc) (s8.u (by unfold Kp2; omega)) (by rw [u2_c (by decide)]; exact z8) ?_ (CS_st (q := []) cs5) ?_ (rg5.fr (fun c h1 h2 => u2_c (by omega))) ?_⟩
      · rw [baseC, if_neg hwb, e5, ob_some]
      · rw [baseM _ hN1 hM1, if_neg hst, e8, ob_some]
      · rw [u2_c (by decide), h08]; rfl
      · rw [st_dp]; exact Gd_dp hn g _
      · refine ⟨by rw [u2_ne (by omega)]; exact hM8.1, fun i hi => ⟨by rw [u2_ne (by omega)]; exact (hM8.2 i hi).1, ?_, fun k hk => ?_⟩⟩
        · rw [stW_w]
          by_cases h : i = t
          · subst h; rw [Nat.zero_add, u2_at, if_pos rfl, if_pos rfl]
          · rw [u2_ne (by omega), if_neg h]; exact (hM8.2 i hi).2.1
        · by_cases h : i = t
          · subst h
            have e0 : (stW σ i []).w i = [] := by rw [stW_w, if_pos rfl]
            rw [e0] at hk
            cases hk
          · have e0 : (stW σ t []).w i = σ.w i := by rw [stW_w, if_neg h]
            have hk' : k < (σ.w i).length := by rw [e0] at hk; exact hk
            rw [u2_ne (by omega), (hM8.2 i hi).2.2 k hk']
            simp only [e0]
      · exact Rows.fr hn (kpS_gd g ac.2.1) hR8 (u2_c (by decide)) (by rw [u2_c (by decide)])
  · refine ⟨.inr xnN, I, 0, upd2 (upd2 I 310 0 0) 310 0 1, ?_, (fun E h => by cases h; rfl), ?_, u2_at, (fun v h => by cases h), hInv.sm (Sm.rf.u0.u0)⟩
    · unfold mX10_tearDown
      rw [eC I c1, lb_r]
    · unfold mX11_tearDown
      rw [eM _ (m1.sm Sm.rf.u0) u2_at, ob_some]
      dsimp only
      rw [if_pos rfl]
theorem s_mend (hN : 100000000000 ≤ N) : St_mend N Inv := by
  intro c I J a1 hc hInv
  obtain ⟨⟨ν, σ, ks, vs, hP⟩, mv⟩ := id hInv
  obtain ⟨hn, g, c1, m1, c2, m2, ac, sg, im, tp, ct⟩ := id hP
  have hln := hn.2.2.1
  have hww := g.wf hn
  have s0 : ∀ {K : gI}, Sm K (upd2 K 310 0 0) := Sm.rf.u0
  rcases lnk_ck hn a1 with ⟨l, hl, rfl, eC, eM⟩ | ⟨eC, eM⟩
  · have e36 : I 36 2 = σ.up := c2.1
    have baseC : mX10_mend N (nI l) I = if bt σ.up l = true then some (.inl 0, upd2 I 0 4 (I 0 4 + 1)) else (Option.bind (mX0_keep N 36 I) (fun I4 => some (.inl 1, upd2 I4 36 2 ((I4 36 2) ||| ((1 : Int32) <<< (nI l &&& 31)))))) := by
      unfold mX10_mend
      rw [eC I c1, lb_l, e36]
      cases h : bt σ.up l with
      | true => rw [if_neg (fun e => by rw [(cb0 (by omega) _).mp e] at h; cases h), if_pos rfl]; rfl
      | false => rw [if_pos ((cb0 (by omega) _).mpr h), if_neg (by decide)]
    have baseM : ∀ K : gI, NetM ν K → MS ν 317 0 σ K → mX11_mend N (nI l) K = if bt σ.up l = true then some (0, upd2 (upd2 K 310 0 0) 312 1 ((upd2 K 310 0 0) 312 1 + 1)) else Option.bind (mX11_keeps N (upd2 K 310 0 0)) (fun I8 => some (1, upd2 I8 317 0 ((I8 317 0) ||| ((1 : Int32) <<< (nI l &&& 31))))) := by
      intro K hm hk
      have hk' : MS ν 317 0 σ (upd2 K 310 0 0) := hk.c (u2_c (by decide))
      have d : mX11_isUp 0 (nI l) (upd2 K 310 0 0) = some (if bt σ.up l = true then 1 else 0) := m_up (b := 0) hk' (by omega) (by omega)
      unfold mX11_mend
      rw [eM _ (hm.sm s0) u2_at, ob_some]
      dsimp only
      rw [if_neg (by decide), d, ob_some]
      cases h : bt σ.up l with
      | true =>
        rw [if_pos rfl, if_neg (by decide), if_pos rfl, m_refuses, ob_some]
        dsimp only
        rw [if_pos (by decide)]
      | false =>
        simp only [Bool.false_eq_true, if_false]
        rw [if_pos trivial]
        rfl
    cases h : bt σ.up l with
    | true =>
      have hN1 : NetM ν (upd2 I 0 4 (I 0 4 + 1)) := m1.fr (X := [0]) (Fr.rf.u2 (by simp)) (by simp) (by simp) (by simp)
      have hM1 : MS ν 317 0 σ (upd2 I 0 4 (I 0 4 + 1)) := m2.c (u2_c (by decide))
      refine ⟨.inl 0, upd2 I 0 4 (I 0 4 + 1), 0, _, by rw [baseC, if_pos h], (fun E h => by cases h), by rw [baseM _ hN1 hM1, if_pos h], ?_, (fun v h => by cases h; rfl), Inv_ref hP mv Sm.rf s0⟩
      rw [u2_c (by decide), u2_at]; rfl
    | false =>
      have hf : ¬ bt σ.up l = true := by rw [h]; decide
      obtain ⟨I5, e5, rg5, cs5, c5, f5, s5, hi5, z5⟩ := c_act (N := N) (by omega) hP Fr.rf
      obtain ⟨x, hx⟩ : ∃ x, x = σ.up ||| ((1 : Int32) <<< (nI l &&& 31)) := ⟨_, rfl⟩
      have hi : ∀ c, 310 ≤ c → (upd2 I5 36 2 x) c = I c := fun c hc => by rw [u2_c (by omega), hi5 c hc]
      have s1 : Sm2 I (upd2 I5 36 2 x) := s5.u (by unfold Kp2; omega)
      obtain ⟨I8, e8, hR8, lo8, s8, z8, k8, hM8, hN8, h08, -, -⟩ := m_act (N := N) (by omega) hP hi s1 FB.rf
      have hN1 : NetM ν (upd2 I5 36 2 x) := m1.sm2 s1
      have hM1 : MS ν 317 0 σ (upd2 I5 36 2 x) := m2.c (hi 317 (by omega))
      have g' : Gd ν (σ.w, σ.bd, x) := by
        refine ⟨fun i hi => ⟨(g.1 i hi).1, (g.1 i hi).2.1, ?_⟩, g.2⟩
        rcases (g.1 i hi).2.2 with e | e
        · exact Or.inl e
        · refine Or.inr ⟨e.1, e.2.1, e.2.2.1, fun m hm => ?_⟩
          have h1 := e.2.2.2 m hm
          have hml := chn_lt e.1 m hm
          unfold opn at h1 ⊢
          simp only [Bool.and_eq_true] at h1 ⊢
          refine ⟨?_, h1.2⟩
          show bt x m = true
          rw [hx, b_or, h1.1]
          rfl
      refine ⟨.inl 1, upd2 I5 36 2 x, 1, upd2 I8 317 0 x, ?_, (fun E h => by cases h), ?_, ?_, (fun v h => by cases h; rfl), act_fin (σ' := (σ.w, σ.bd, x)) hP mv hi s1 (by rw [u2_c (by decide)]; exact z5) (fun c hc => by rw [u2_c (by omega)]; exact lo8 c hc) (s8.u (by unfold Kp2; omega)) (by rw [u2_c (by decide)]; exact z8) g' ⟨u2_at, fun t ht => by rw [u2_c (by omega), u2_c (by omega)]; exact cs5.2 t ht⟩ ⟨u2_at, fun t ht => by rw [u2_ne (by omega), u2_ne (by omega)]; exact ⟨(hM8.2 t ht).1, (hM8.2 t ht).2.1, fun k hk => by rw [u2_ne (by omega)]; exact (hM8.2 t ht).2.2 k hk⟩⟩ (rg5.fr (fun c h1 h2 => u2_c (by omega))) ?_⟩
      · rw [baseC, if_neg hf, e5, ob_some, show I5 36 2 = σ.up from cs5.1, ← hx]
      · rw [baseM _ hN1 hM1, if_neg hf, e8, ob_some, show I8 317 0 = σ.up from hM8.1, ← hx]
      · rw [u2_c (by decide), h08]; rfl
      · exact Rows.fr hn (kpS_gd g ac.2.1) hR8 (u2_c (by decide)) (by rw [u2_c (by decide)])
  · refine ⟨.inr xnN, I, 0, upd2 (upd2 I 310 0 0) 310 0 1, ?_, (fun E h => by cases h; rfl), ?_, u2_at, (fun v h => by cases h), hInv.sm (Sm.rf.u0.u0)⟩
    · unfold mX10_mend
      rw [eC I c1, lb_r]
    · unfold mX11_mend
      rw [eM _ (m1.sm Sm.rf.u0) u2_at, ob_some]
      dsimp only
      rw [if_pos rfl]
end Steps2
