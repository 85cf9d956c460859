section Steps10
variable {N : Nat}
set_option maxHeartbeats 2000000 in
theorem s_resize (hN : 100000000000 ≤ N) : St_resize N Inv := by
  intro c I J a1 a2 hc hInv
  obtain ⟨⟨ν, σ, ks, vs, hP⟩, mv⟩ := id hInv
  obtain ⟨hn, g, c1, m1, c2, m2, ac, sg, im, tp, ct⟩ := id hP
  have htn := hn.2.2.2.1
  have hww := g.wf hn
  have s0 : ∀ {K : gI}, Sm K (upd2 K 310 0 0) := Sm.rf.u0
  rcases tun_ck hn a1 with ⟨t, ht, rfl, eC, eM⟩ | ⟨eC, eM⟩
  · have hT := hn.2.2.2.2.2 t ht
    have hbd := (g.1 t ht)
    have e37 : I 37 t = wb (σ.w t) := (c2.2 t ht).1
    have e38 : I 38 t = nI (σ.bd t) := (c2.2 t ht).2
    obtain ⟨xa, hxa, hxa1⟩ : ∃ xa : Int32, (∀ I, mX11_within a2 1 99 I = some xa) ∧ ((xa = 1 ∧ ∃ d, 1 ≤ d ∧ d ≤ 99 ∧ a2 = nI d) ∨ xa = 0) := by
      rcases wi_ck (lo := 1) (hi := 99) (by omega) (by omega) a2 with ⟨d, h1, h2, rfl, e⟩ | ⟨-, e⟩
      · exact ⟨1, e, Or.inl ⟨rfl, d, h1, h2, rfl⟩⟩
      · exact ⟨0, e, Or.inr rfl⟩
    have ba : mX10_isAmount a2 I = some xa := hxa I
    have refM : ∀ K : gI, NetM ν K → MS ν 317 0 σ K → (xa = 0 ∨ a2 = nI (σ.bd t)) → mX11_resize N (nI t) a2 K = some (-1, upd2 (upd2 K 310 0 0) 312 1 ((upd2 K 310 0 0) 312 1 + 1)) := by
      intro K hm hk h
      have hk' : MS ν 317 0 σ (upd2 K 310 0 0) := hk.c (u2_c (by decide))
      have q : (upd2 K 310 0 0) 317 (1 + t) = nI (σ.bd t) := by have := (hk'.2 t ht).1; rwa [Nat.zero_add] at this
      unfold mX11_resize
      rw [eM _ (hm.sm s0) u2_at, ob_some]
      dsimp only
      rw [if_neg (show ¬ (1 : Int32) = 0 by decide), ix1', ck_n (by omega) (by decide), hxa, ob_some, nI_clamp (by omega), q, m_refuses, ob_some]
      by_cases h1 : xa = 0
      · rw [if_pos h1]
      · rw [if_neg h1, if_pos (h.resolve_left h1)]
    have refC : (xa = 0 ∨ a2 = nI (σ.bd t)) → mX10_resize N (nI t) a2 I = some (.inl (-1), upd2 I 0 4 (I 0 4 + 1)) := by
      intro h
      unfold mX10_resize
      rw [eC I c1, lb_l, ck_n (by omega) (by decide), ba, ob_some, nI_clamp (by omega), e38]
      by_cases h1 : xa = 0
      · rw [if_pos h1]; rfl
      · rw [if_neg h1, if_pos (h.resolve_left h1)]; rfl
    by_cases hbad : xa = 0 ∨ a2 = nI (σ.bd t)
    · have hN1 : NetM ν (upd2 I 0 4 (I 0 4 + 1)) := m1.fr (X := [0]) (Fr.rf.u2 (by simp)) (by simp) (by simp) (by simp)
      have hM1 : MS ν 317 0 σ (upd2 I 0 4 (I 0 4 + 1)) := m2.c (u2_c (by decide))
      refine ⟨.inl (-1), upd2 I 0 4 (I 0 4 + 1), -1, _, refC hbad, (fun E h => by cases h), refM _ hN1 hM1 hbad, ?_, (fun v h => by cases h; rfl), Inv_ref hP mv Sm.rf s0⟩
      rw [u2_c (by decide), u2_at]; rfl
    · have hx0 : ¬ xa = 0 := fun h => hbad (Or.inl h)
      have hne : ¬ a2 = nI (σ.bd t) := fun h => hbad (Or.inr h)
      obtain ⟨a, ha1, ha2, rfl⟩ : ∃ a, 1 ≤ a ∧ a ≤ 99 ∧ a2 = nI a := by
        rcases hxa1 with ⟨-, d, d1, d2, d3⟩ | h
        · exact ⟨d, d1, d2, d3⟩
        · exact absurd h hx0
      have baseM : ∀ K : gI, NetM ν K → MS ν 317 0 σ K → mX11_resize N (nI t) (nI a) K = if σ.w t = [] then (Option.bind (mX11_keeps N (upd2 K 310 0 0)) (fun I19 => Option.bind (mX11_doesStand 0 (nI t) I19) (fun r21 => if r21 = 0 then (some (nI (σ.bd t), upd2 I19 317 (1 + t) (nI a))) else (Option.bind (mX11_takes N 0 (nI t) (upd2 I19 317 (1 + t) (nI a))) (fun I24 => Option.bind (mX11_pushedBy N 0 (nI t) I24) (fun r26 => Option.bind (mX11_bits N r26 I24) (fun r28 => Option.bind (mX11_resize_118 (nI (σ.bd t)) r26 N 0 (upd2 I24 310 36 r28)) (fun I33 => Option.bind (mX11_settles N 0 r26 I33) (fun I34 => some (nI (σ.bd t), I34)))))))))) else (Option.bind (mX11_hasBest N 0 (nI t) (nI a) (upd2 K 310 0 0)) (fun (r38, I39) => if r38 = 0 then (Option.bind (mX11_refuses 1 I39) (fun (r61, I62) => some (r61, I62))) else (Option.bind (mX11_keeps N I39) (fun I42 => Option.bind (mX11_doesStand 0 (nI t) I42) (fun r44 => if r44 = 0 then (some (nI (σ.bd t), upd2 I42 317 (1 + t) (nI a))) else (Option.bind (mX11_takes N 0 (nI t) (upd2 I42 317 (1 + t) (nI a))) (fun I47 => Option.bind (mX11_pushedBy N 0 (nI t) I47) (fun r49 => Option.bind (mX11_bits N r49 I47) (fun r51 => Option.bind (mX11_resize_118 (nI (σ.bd t)) r49 N 0 (upd2 I47 310 36 r51)) (fun I56 => Option.bind (mX11_settles N 0 r49 I56) (fun I57 => some (nI (σ.bd t), I57)))))))))))) := by
        intro K hm hk
        have hk' : MS ν 317 0 σ (upd2 K 310 0 0) := hk.c (u2_c (by decide))
        have q : (upd2 K 310 0 0) 317 (1 + t) = nI (σ.bd t) := by have := (hk'.2 t ht).1; rwa [Nat.zero_add] at this
        have d : mX11_doesStand 0 (nI t) (upd2 K 310 0 0) = some (if σ.w t = [] then 0 else 1) := m_stand (b := 0) hn hk' hww (by omega) ht
        unfold mX11_resize
        rw [eM _ (hm.sm s0) u2_at, ob_some]
        dsimp only
        rw [if_neg (show ¬ (1 : Int32) = 0 by decide), ix1', ck_n (by omega) (by decide), hxa, ob_some, nI_clamp (by omega), q, if_neg hx0, if_neg hne, d, ob_some]
        by_cases hst : σ.w t = []
        · rw [if_pos hst, if_pos rfl, if_pos hst]
        · rw [if_neg hst, if_neg (show ¬ (1 : Int32) = 0 by decide), if_neg hst]
      by_cases hst : σ.w t = []
      · obtain ⟨I5, e5, rg5, cs5, c5, f5, s5, hi5, z5⟩ := c_act (N := N) (by omega) hP Fr.rf
        have hi : ∀ c, 310 ≤ c → (upd2 I5 38 t (nI a)) c = I c := fun c hc => by rw [u2_c (by omega), hi5 c hc]
        have s1 : Sm2 I (upd2 I5 38 t (nI a)) := s5.u (by unfold Kp2; omega)
        obtain ⟨I8, e8, hR8, lo8, s8, z8, k8, hM8, hN8, h08, -, -⟩ := m_act (N := N) (by omega) hP hi s1 FB.rf
        have hN1 : NetM ν (upd2 I5 38 t (nI a)) := m1.sm2 s1
        have hM1 : MS ν 317 0 σ (upd2 I5 38 t (nI a)) := m2.c (hi 317 (by omega))
        have d8 : mX11_doesStand 0 (nI t) I8 = some (if σ.w t = [] then 0 else 1) := m_stand (b := 0) hn hM8 hww (by omega) ht
        have g' : Gd ν (bdS σ t a) := by
          refine ⟨fun i hi => ?_, fun l hl => ?_⟩
          · show 1 ≤ (if i = t then a else σ.bd i) ∧ (if i = t then a else σ.bd i) ≤ 99 ∧ _
            refine ⟨?_, ?_, (g.1 i hi).2.2⟩
            · split
              · exact ha1
              · exact (g.1 i hi).1
            · split
              · exact ha2
              · exact (g.1 i hi).2.1
          · have q1 := pl_back (ν := ν) (σ := bdS σ t a) (l := l) (p := 7) ht htn (by omega)
            have q2 := pl_back (ν := ν) (σ := σ) (l := l) (p := 7) ht htn (by omega)
            rw [pl_bd] at q1
            have q3 : bk (bdS σ t a) t l = 0 := by
              unfold bk
              rw [if_neg]
              show ¬ l ∈ σ.w t
              rw [hst]; simp
            have q4 : 0 ≤ bk σ t l := by unfold bk; split <;> omega
            have := g.2 l hl
            omega
        refine ⟨.inl (nI (σ.bd t)), upd2 I5 38 t (nI a), nI (σ.bd t), upd2 I8 317 (1 + t) (nI a), ?_, (fun E h => by cases h), ?_, ?_, (fun v h => by cases h; rfl), act_fin (σ' := bdS σ t a) hP mv hi s1 (by rw [u2_c (by decide)]; exact z5) (fun c hc => by rw [u2_c (by omega)]; exact lo8 c hc) (s8.u (by unfold Kp2; omega)) (by rw [u2_c (by decide)]; exact z8) g' (CS_bd cs5) (MS_bd hn ht hM8) (rg5.fr (fun c h1 h2 => u2_c (by omega))) (Rows.fr hn (kpS_gd g ac.2.1) hR8 (u2_c (by decide)) (by rw [u2_c (by decide)]))⟩
        · unfold mX10_resize
          rw [eC I c1, lb_l, ck_n (by omega) (by decide), ba, ob_some, nI_clamp (by omega), e38, e37, if_neg hx0, if_neg hne, if_pos (show wb (σ.w t) = 0 by rw [hst]; rfl), ob_some, if_pos (show (0 : Int32) = 0 from rfl), e5, ob_some, if_pos (show (0 : Int32) = 0 from rfl)]
        · rw [baseM _ hN1 hM1, if_pos hst, e8, ob_some, d8, if_pos hst, ob_some, if_pos rfl]
        · rw [u2_c (by decide), h08]; rfl
      · have hwb : ¬ wb (σ.w t) = 0 := fun h => hst ((wb_0 hn (hww t ht).2.2).mp h)
        obtain ⟨I9, q, eB, fq, hq⟩ := c_bw (N := N) (u := 36) (t := t) (bd := a) (p := ν.T t 3) hn c1 c2 (by omega) hww (by omega) ht ha2 hT.2.2.2.2.2.1
        have sm9 : Sm I I9 := Sm.fr fq (by simp [sc])
        have hP9 := hP.sm sm9
        have baseC : mX10_resize N (nI t) (nI a) I = if wb q = 0 then some (.inl (-1), upd2 I9 0 4 (I9 0 4 + 1)) else (Option.bind (mX0_keep N 36 I9) (fun I24 => Option.bind (mX2_settle N 36 (nI (2 ^ t)) (upd2 I24 38 t (nI a))) (fun (r27, I28) => some (.inl (nI (σ.bd t)), I28)))) := by
          unfold mX10_resize
          rw [eC I c1, lb_l, ck_n (by omega) (by decide), ba, ob_some, nI_clamp (by omega), e38, e37, if_neg hx0, if_neg hne, if_neg hwb, ob_some, if_neg (show ¬ (1 : Int32) = 0 by decide), show I 11 t = nI (ν.T t 3) from c1.2.2.2.2 t ht 3 (by decide), eB, ob_some, sh1_n t (by omega)]
          dsimp only
          rfl
        by_cases hq0 : q = []
        · have hN9 : NetM ν (upd2 I9 0 4 (I9 0 4 + 1)) := (hP9.2.2.2.1).fr (X := [0]) (Fr.rf.u2 (by simp)) (by simp) (by simp) (by simp)
          have hM9 : MS ν 317 0 σ (upd2 I9 0 4 (I9 0 4 + 1)) := hP9.2.2.2.2.2.1.c (u2_c (by decide))
          have hM9' : MS ν 317 0 σ (upd2 (upd2 I9 0 4 (I9 0 4 + 1)) 310 0 0) := hM9.c (u2_c (by decide))
          obtain ⟨I13, q', hq', fB, hres⟩ := m_hasBest (N := N) (b := 0) hn (hN9.sm s0) hM9' hww (by omega) hN ht ha2
          obtain rfl := bst_one hn ht hq hq'
          rcases hres with ⟨hne', -⟩ | ⟨-, e, -⟩
          · exact absurd hq0 hne'
          refine ⟨.inl (-1), upd2 I9 0 4 (I9 0 4 + 1), -1, upd2 I13 312 1 (I13 312 1 + 1), by rw [baseC, if_pos (by rw [hq0]; rfl)], (fun E h => by cases h), ?_, ?_, (fun v h => by cases h; rfl), Inv_ref hP mv sm9 (s0.tr (Sm.fb fB))⟩
          · rw [baseM _ hN9 hM9, if_neg hst, show mX11_hasBest N 0 (nI t) (nI a) (upd2 (upd2 I9 0 4 (I9 0 4 + 1)) 310 0 0) = some (0, I13) from e, ob_some]
            dsimp only
            rw [if_pos rfl, m_refuses, ob_some]
          · rw [u2_c (by decide), fB.2 0 (by simp), u2_at]; rfl
        · obtain ⟨I12, e12, rg12, cs12, c12, f12, s12, hi12, z12⟩ := c_act (N := N) (by omega) hP fq
          have hA : ∀ i, i < ν.tn → 1 ≤ (bdS σ t a).bd i ∧ (bdS σ t a).bd i ≤ 99 ∧ ((bdS σ t a).w i = [] ∨ IsP ν (opn ν (bdS σ t a) i) (ν.T i 0) (ν.T i 1) (ν.T i 6) ((bdS σ t a).w i)) := by
            intro i hi
            show 1 ≤ (if i = t then a else σ.bd i) ∧ (if i = t then a else σ.bd i) ≤ 99 ∧ _
            refine ⟨?_, ?_, (g.1 i hi).2.2⟩
            · split
              · exact ha1
              · exact (g.1 i hi).1
            · split
              · exact ha2
              · exact (g.1 i hi).2.1
          have hBp : ∀ l, l < ν.ln → 0 ≤ pl ν (bdS σ t a) t l 7 := fun l hl => by
            rw [pl_bd]
            have q2 := pl_back (ν := ν) (σ := σ) (l := l) (p := 7) ht htn (by omega)
            have q4 : 0 ≤ bk σ t l := by unfold bk; split <;> omega
            have := g.2 l hl
            omega
          have hw1 : WfW ν (bdS σ t a) := fun i hi => ⟨(hA i hi).2.1, (hww i hi).2⟩
          have hbt : (bdS σ t a).bd t = a := if_pos rfl
          have hq1 : bst ν (bdS σ t a) t ((bdS σ t a).bd t) (ν.T t 3) q := by rw [hbt]; exact bst_bd.mpr hq
          have cB : NetC ν (upd2 I12 38 t (nI a)) := c12.fr (X := [38]) (Fr.rf.u2 (by simp)) (by simp)
          obtain ⟨n, σ', I15, p1, r15, e15, hp, g2, hS, cs15, g15, f15⟩ := c_turn (N := N) (u := 36) (σ := bdS σ t a) hn (by omega) (by omega) ht hA hBp hw1 cB (CS_bd cs12) hq1 hq0
          have hi : ∀ c, 310 ≤ c → I15 c = I c := fun c hc => by rw [f15 c (by simp; omega), u2_c (by omega), hi12 c hc]
          have s15 : Sm2 I I15 := (s12.u (by unfold Kp2; omega)).tr (Sm2.fr f15 (by simp [sc]))
          have hN15 : NetM ν I15 := m1.sm2 s15
          have hM15 : MS ν 317 0 σ I15 := m2.c (hi 317 (by omega))
          have hM15' : MS ν 317 0 σ (upd2 I15 310 0 0) := hM15.c (u2_c (by decide))
          obtain ⟨I13, q', hq', fB, hres⟩ := m_hasBest (N := N) (b := 0) hn (hN15.sm s0) hM15' hww (by omega) hN ht ha2
          obtain rfl := bst_one hn ht hq hq'
          rcases hres with ⟨-, e, k1, k2⟩ | ⟨hne', -⟩
          rotate_left
          · exact absurd hne' hq0
          obtain ⟨I16, e16, hR16, lo16, s16, z16, k16, hM16, hN16, h016, j16, x16⟩ := m_act (N := N) (by omega) hP hi s15 fB
          have d16 : mX11_doesStand 0 (nI t) I16 = some (if σ.w t = [] then 0 else 1) := m_stand (b := 0) hn hM16 hww (by omega) ht
          have hB' := bst_isB hq1 hq0
          have hq7 : q.length ≤ 7 := by have := hB'.1.2.2.1; omega
          have fA : FS 0 I16 (upd2 I16 317 (1 + t) (nI a)) := FS.rf.u (by omega) (by omega)
          obtain ⟨I17, e17, f17, y17, hM17⟩ := m_takes (N := N) (b := 0) hn (hN16.fs fA) (MS_bd (a := a) hn ht hM16) hw1 (by omega) (by omega) ht hq0 hq7 (by rw [u2_c (by decide), j16 32 (by omega)]; exact k1) (fun k hk => by rw [u2_c (by decide), x16]; exact k2 k hk)
          have hN17 := (hN16.fs fA).fs f17
          have hw2 : WfW ν (stW (bdS σ t a) t q) := WfW_st (bd := 0) (p := 0) hn hw1 ht hB'
          obtain ⟨p2, e18, hp2⟩ := m_push (N := N) (b := 0) hn hN17 hM17 hw2 (by omega) (by omega) ht (by rw [stW_w, if_pos rfl]; exact hq0) (st_fit hB')
          obtain rfl := psh_one hp hp2
          have f36 : FS 0 I17 (upd2 I17 310 36 (nI (pcn p1))) := FS.rf.u36
          obtain ⟨I19, e19, f19, y19, hM19⟩ := m_drop2 (N := N) (k3 := nI (σ.bd t)) hn (hN17.fs f36) (hM17.c (u2_c (by decide)) : MS ν 317 0 _ (upd2 I17 310 36 (nI (pcn p1)))) (by omega) p1
          obtain ⟨I20, e20, hM20, f20, -⟩ := m_settle2 (N := N) (b := 0) hn hN (by omega) 8 p1 _ I19 N n σ' g2 ((hN17.fs f36).fs f19) hM19 hp.1 (by omega) hS
          have fAll : FS 0 I16 I20 := fA.tr (f17.tr (f36.tr (f19.tr f20)))
          refine ⟨.inl (nI (σ.bd t)), I15, nI (σ.bd t), I20, ?_, (fun E h => by cases h), ?_, ?_, (fun v h => by cases h; rfl), act_fin hP mv hi s15 ?_ ?_ (s16.tr (Sm2.fs fAll)) ?_ g15 cs15 hM20 (rg12.fr (fun c h1 h2 => by rw [f15 c (by simp; omega), u2_c (by omega)])) ?_⟩
          · rw [baseC, if_neg (fun h => hq0 ((wb_0 hn (bst_ln hq)).mp h)), e12, ob_some, e15, ob_some]
          · rw [baseM _ hN15 hM15, if_neg hst, show mX11_hasBest N 0 (nI t) (nI a) (upd2 I15 310 0 0) = some (1, I13) from e, ob_some]
            dsimp only
            rw [if_neg (show ¬ (1 : Int32) = 0 by decide), e16, ob_some, d16, if_neg hst, ob_some, if_neg (show ¬ (1 : Int32) = 0 by decide), show mX11_takes N 0 (nI t) (upd2 I16 317 (1 + t) (nI a)) = some I17 from e17, ob_some, show mX11_pushedBy N 0 (nI t) I17 = some (nI p1) from e18, ob_some, m_bits (by omega), ob_some, e19, ob_some]
            unfold mX11_settles
            rw [show mX11_settles_2 N 0 N (nI p1) I19 = some I20 from e20, ob_some, ob_some]
          · rw [fAll.2.1 0 (by simp), h016]; rfl
          · rw [f15 0 (by simp), u2_c (by decide), z12]
          · intro c hc; rw [fAll.1 c (by simp; omega), lo16 c hc]
          · rw [fAll.1 312 (by simp), z16]
          · exact Rows.fr hn (kpS_gd g ac.2.1) hR16 (fAll.1 318 (by simp)) (fAll.2.1 25 (by simp))
  · refine ⟨.inr xnN, I, 0, upd2 (upd2 I 310 0 0) 310 0 1, ?_, (fun E h => by cases h; rfl), ?_, u2_at, (fun v h => by cases h), hInv.sm (Sm.rf.u0.u0)⟩
    · unfold mX10_resize
      rw [eC I c1, lb_r]
    · unfold mX11_resize
      rw [eM _ (m1.sm Sm.rf.u0) u2_at, ob_some]
      dsimp only
      rw [if_pos rfl]
end Steps10
