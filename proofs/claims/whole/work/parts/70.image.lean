section Steps8
variable {N : Nat}
theorem s_image (hN : 100000000000 ≤ N) : St_image N Inv := by
  intro c I J hc hInv
  obtain ⟨⟨ν, σ, ks, vs, hP⟩, mv⟩ := id hInv
  obtain ⟨hn, g, c1, m1, c2, m2, ac, sg, im, tp, ct⟩ := id hP
  obtain ⟨h40, hgk, rg, rws⟩ := id ac
  obtain ⟨g1, g2, g3, g4, g5⟩ := id sg
  obtain ⟨I1, e1, f1, p1⟩ := c_cpR (N := N) (I := I) (u := 179) (w := 36) (by omega) (by omega)
  have cs1 : CS ν 179 σ I1 := c2.cp hn p1
  have f1' : ∀ c, c < 179 ∨ 181 < c → I1 c = I c := fun c hc => f1 c (by simp; omega)
  obtain ⟨I3, e3, rg3, f3⟩ := c_ring_182 (N := N) (ks := ks) hn (by omega) (rg.fr (fun c h1 h2 => f1' c (by omega)))
  obtain ⟨I5, e5, s5, v5, f5⟩ := c_sg_304 (N := N) (I := I3) (vs := vs) (by omega) g1 (fun v hv => (g2 v hv).2.2.2.2.2.2) (by rw [f3 173 (by omega) (by omega), f1' 173 (by omega)]; exact g3) (fun j hj k hk => by rw [f3 _ (by omega) (by omega), f1' _ (by omega)]; exact (g5 j hj k hk).1)
  obtain ⟨Ic, hIc⟩ : ∃ Ic, Ic = upd2 I5 0 16 1 := ⟨_, rfl⟩
  have kc : ∀ c, c ≠ 0 → (c < 179 ∨ 309 < c) → Ic c = I c := fun c h0 h1 => by rw [hIc, u2_c h0, f5 c (by omega), f3 c (by omega) (by omega), f1' c (by omega)]
  have k0 : ∀ j, j ≠ 16 → Ic 0 j = I 0 j := fun j hj => by rw [hIc, u2_ne (by omega), f5 0 (by omega), f3 0 (by omega) (by omega), f1' 0 (by omega)]
  have k016 : Ic 0 16 = 1 := by rw [hIc, u2_at]
  have cs179 : CS ν 179 σ Ic := cs1.eq (by rw [hIc, u2_c (by decide), f5 _ (by omega), f3 _ (by omega) (by omega)]) (by rw [hIc, u2_c (by decide), f5 _ (by omega), f3 _ (by omega) (by omega)]) (by rw [hIc, u2_c (by decide), f5 _ (by omega), f3 _ (by omega) (by omega)])
  have rg182 : Ring ν 182 184 ks Ic := by
    obtain ⟨f, q1, q2, q3, q4⟩ := rg3
    have q : ∀ c, 182 ≤ c → c ≤ 303 → Ic c = I3 c := fun c h1 h2 => by rw [hIc, u2_c (by omega), f5 c (by omega)]
    exact ⟨f, q1, by rw [q 182 (by omega) (by omega)]; exact q2, by rw [q 182 (by omega) (by omega)]; exact q3, fun j hj => (q4 j hj).eq (q _ (by omega) (by omega)) (q _ (by omega) (by omega)) (q _ (by omega) (by omega))⟩
  obtain ⟨Ia, hIa⟩ : ∃ Ia, Ia = upd2 (upd2 (upd2 (upd2 Ic 310 0 0) 310 48 1) 310 49 (Ic 310 25)) 310 50 (Ic 310 45) := ⟨_, rfl⟩
  have ka : ∀ c, c ≠ 310 → Ia c = Ic c := fun c hc => by rw [hIa, u2_c hc, u2_c hc, u2_c hc, u2_c hc]
  have ka3 : ∀ j, j ≠ 0 → j ≠ 48 → j ≠ 49 → j ≠ 50 → Ia 310 j = I 310 j := fun j h1 h2 h3 h4 => by rw [hIa, u2_ne (by omega), u2_ne (by omega), u2_ne (by omega), u2_ne (by omega), kc 310 (by omega) (by omega)]
  have a48 : Ia 310 48 = 1 := by rw [hIa, u2_ne (by omega), u2_ne (by omega), u2_at]
  have a49 : Ia 310 49 = I 310 25 := by rw [hIa, u2_ne (by omega), u2_at, kc 310 (by omega) (by omega)]
  have a50 : Ia 310 50 = I 310 45 := by rw [hIa, u2_at, kc 310 (by omega) (by omega)]
  obtain ⟨I6, e6, f6, d6⟩ := m_image_28 (N := N) (I := Ia) (by omega)
  obtain ⟨I7, e7, f7, d7⟩ := m_cp_318_335 (N := N) (I := I6) (by omega)
  obtain ⟨I9, e9, f9, d9⟩ := m_cp_333_336 (N := N) (I := I7) (by omega)
  have kk : ∀ c, c ≠ 0 → c ≠ 310 → (c < 179 ∨ 309 < c) → c ≠ 334 → c ≠ 335 → c ≠ 336 → I9 c = I c := fun c h0 h1 h2 h3 h4 h5 => by rw [f9 c h5, f7 c h4, f6 c h3, ka c h1, kc c h0 h2]
  have kI : ∀ c, c < 310 → I9 c = Ic c := fun c h => by rw [f9 c (by omega), f7 c (by omega), f6 c (by omega), ka c (by omega)]
  have k310 : I9 310 = Ia 310 := by rw [f9 310 (by omega), f7 310 (by omega), f6 310 (by omega)]
  have k3 : ∀ j, j ≠ 0 → j ≠ 48 → j ≠ 49 → j ≠ 50 → I9 310 j = I 310 j := fun j h1 h2 h3 h4 => by rw [k310, ka3 j h1 h2 h3 h4]
  refine ⟨Ic, I9, ?_, ?_, ⟨ν, σ, ks, vs, hn, g, ?_, ?_, c2.eq (kk _ (by omega) (by omega) (by omega) (by omega) (by omega) (by omega)) (kk _ (by omega) (by omega) (by omega) (by omega) (by omega) (by omega)) (kk _ (by omega) (by omega) (by omega) (by omega) (by omega) (by omega)), m2.c (kk _ (by omega) (by omega) (by omega) (by omega) (by omega) (by omega)), ⟨h40, hgk, rg.fr (fun c h1 h2 => kk c (by omega) (by omega) (by omega) (by omega) (by omega) (by omega)), Rows.fr hn hgk rws (kk _ (by omega) (by omega) (by omega) (by omega) (by omega) (by omega)) (k3 25 (by omega) (by omega) (by omega) (by omega))⟩, ?_, ?_, ?_, ?_⟩, ?_⟩
  · unfold mX10_image
    rw [e1, ob_some, e3, ob_some, e5, ob_some, ← hIc]
  · unfold mX11_image
    simp only [nm_n]
    rw [show upd2 (upd2 (upd2 (upd2 Ic 310 0 0) 310 48 1) 310 49 ((upd2 (upd2 Ic 310 0 0) 310 48 1) 310 25)) 310 50 ((upd2 (upd2 (upd2 Ic 310 0 0) 310 48 1) 310 49 ((upd2 (upd2 Ic 310 0 0) 310 48 1) 310 25)) 310 45) = Ia by
      rw [hIa, u2_ne (show ¬ (310 = 310 ∧ 25 = 48) by omega), u2_ne (show ¬ (310 = 310 ∧ 25 = 0) by omega), u2_ne (show ¬ (310 = 310 ∧ 45 = 49) by omega), u2_ne (show ¬ (310 = 310 ∧ 45 = 48) by omega), u2_ne (show ¬ (310 = 310 ∧ 45 = 0) by omega)], e6, ob_some, e7, ob_some, e9, ob_some]
  · exact ⟨by rw [kk 2 (by omega) (by omega) (by omega) (by omega) (by omega) (by omega)]; exact c1.1, by rw [kk 2 (by omega) (by omega) (by omega) (by omega) (by omega) (by omega)]; exact c1.2.1, by rw [kk 2 (by omega) (by omega) (by omega) (by omega) (by omega) (by omega)]; exact c1.2.2.1, fun l hl j hj => by rw [kk _ (by omega) (by omega) (by omega) (by omega) (by omega) (by omega)]; exact c1.2.2.2.1 l hl j hj, fun l hl j hj => by rw [kk _ (by omega) (by omega) (by omega) (by omega) (by omega) (by omega)]; exact c1.2.2.2.2 l hl j hj⟩
  · exact ⟨by rw [k3 _ (by omega) (by omega) (by omega) (by omega)]; exact m1.1, by rw [k3 _ (by omega) (by omega) (by omega) (by omega)]; exact m1.2.1, by rw [k3 _ (by omega) (by omega) (by omega) (by omega)]; exact m1.2.2.1, by rw [kk 313 (by omega) (by omega) (by omega) (by omega) (by omega) (by omega)]; exact m1.2.2.2.1, by rw [kk 315 (by omega) (by omega) (by omega) (by omega) (by omega) (by omega)]; exact m1.2.2.2.2⟩
  · exact ⟨g1, g2, by rw [kk 173 (by omega) (by omega) (by omega) (by omega) (by omega) (by omega)]; exact g3, by rw [k3 _ (by omega) (by omega) (by omega) (by omega)]; exact g4, fun j hj k hk => by rw [kk (173 + 1 + k) (by omega) (by omega) (by omega) (by omega) (by omega) (by omega), kk 333 (by omega) (by omega) (by omega) (by omega) (by omega) (by omega)]; exact g5 j hj k hk⟩
  · have w016 : I9 0 16 = 1 := by rw [kI 0 (by omega), k016]
    refine ⟨by rw [k310, a48, w016], Or.inr ⟨w016, σ, ks, vs, g, cs179.eq (kI _ (by omega)) (kI _ (by omega)) (kI _ (by omega)), ?_, ⟨h40, hgk, ?_, ?_, fun j hj => ?_⟩, g1, g2, ?_, ?_, fun j hj k hk => ⟨?_, ?_⟩⟩⟩
    · refine MS.mv hn (g.wf hn) m2 (fun i hi => ?_)
      rw [Nat.zero_add, f9 334 (by omega), f7 334 (by omega), d6 i hi, ka 317 (by omega), kc 317 (by omega) (by omega)]
    · obtain ⟨f, q1, q2, q3, q4⟩ := rg182
      exact ⟨f, q1, by rw [kI 182 (by omega)]; exact q2, by rw [kI 182 (by omega)]; exact q3, fun j hj => (q4 j hj).eq (kI _ (by omega)) (kI _ (by omega)) (kI _ (by omega))⟩
    · rw [k310, a49]; exact rws.1
    · refine MS.mv hn ((hgk _ (List.getElem_mem hj)).wf hn) (rws.2 j hj) (fun i hi => ?_)
      rw [f9 335 (by omega), d7 _ (by omega), f6 318 (by omega), ka 318 (by omega), kc 318 (by omega) (by omega)]
    · rw [kI 304 (by omega), hIc, u2_c (by decide)]; exact s5
    · rw [k310, a50]; exact g4
    · rw [kI _ (by omega), hIc, u2_c (by omega)]; exact v5 j hj k hk
    · rw [d9 _ (by omega), f7 333 (by omega), f6 333 (by omega), ka 333 (by omega), kc 333 (by omega) (by omega)]; exact (g5 j hj k hk).2
  · obtain ⟨n, t1, t2, t3, t4⟩ := tp
    exact ⟨n, t1, by rw [kI 0 (by omega), k0 1 (by omega)]; exact t2, by rw [k3 _ (by omega) (by omega) (by omega) (by omega)]; exact t3, fun j hj => by rw [kk 311 (by omega) (by omega) (by omega) (by omega) (by omega) (by omega), kk 1 (by omega) (by omega) (by omega) (by omega) (by omega) (by omega)]; exact t4 j hj⟩
  · unfold Ctr
    rw [k3 4 (by omega) (by omega) (by omega) (by omega), kI 0 (by omega), k0 2 (by omega), k0 3 (by omega), k0 4 (by omega), k0 5 (by omega), kk 312 (by omega) (by omega) (by omega) (by omega) (by omega) (by omega)]
    exact ct
  · obtain ⟨m, q1, q2, q3⟩ := mv
    exact ⟨m, by omega, by rw [kk 43 (by omega) (by omega) (by omega) (by omega) (by omega) (by omega)]; exact q2, fun s hs => by rw [kk 49 (by omega) (by omega) (by omega) (by omega) (by omega) (by omega)]; exact q3 s hs⟩
theorem s_restore (hN : 100000000000 ≤ N) : St_restore N Inv := by
  intro c I J hc hInv
  obtain ⟨⟨ν, σ, ks, vs, hP⟩, mv⟩ := id hInv
  obtain ⟨hn, g, c1, m1, c2, m2, ac, sg, im, tp, ct⟩ := id hP
  have s0 : ∀ {K : gI}, Sm K (upd2 K 310 0 0) := Sm.rf.u0
  obtain ⟨i1, i2⟩ := im
  rcases i2 with i2 | ⟨i2, σi, ki, vi, gi, ci, mi, ai, si⟩
  · refine ⟨0, I, upd2 I 310 0 0, ?_, ?_, hInv.sm s0⟩
    · unfold mX10_restore
      rw [i2, if_pos rfl]
    · unfold mX11_restore
      rw [u2_ne (by omega), i1, i2, if_pos rfl]
  · obtain ⟨h40, hgk, rg, rws⟩ := id ai
    obtain ⟨g1, g2, g3, g4, g5⟩ := id si
    obtain ⟨I1, e1, f1, p1⟩ := c_cpR (N := N) (I := I) (u := 36) (w := 179) (by omega) (by omega)
    have cs1 : CS ν 36 σi I1 := ci.cp hn p1
    have f1' : ∀ c, c < 36 ∨ 38 < c → I1 c = I c := fun c hc => f1 c (by simp; omega)
    have rg1 : Ring ν 182 184 ki I1 := by
      obtain ⟨f, q1, q2, q3, q4⟩ := rg
      exact ⟨f, q1, by rw [f1' 182 (by omega)]; exact q2, by rw [f1' 182 (by omega)]; exact q3, fun j hj => (q4 j hj).eq (f1' _ (by omega)) (f1' _ (by omega)) (f1' _ (by omega))⟩
    obtain ⟨I3, e3, rg3, f3⟩ := c_ring_51 (N := N) (ks := ki) hn (by omega) rg1
    obtain ⟨Ic, e5, s5, v5, f5⟩ := c_sg_173 (N := N) (I := I3) (vs := vi) (by omega) g1 (fun v hv => (g2 v hv).2.2.2.2.2.2) (by rw [f3 304 (by omega) (by omega), f1' 304 (by omega)]; exact g3) (fun j hj k hk => by rw [f3 _ (by omega) (by omega), f1' _ (by omega)]; exact (g5 j hj k hk).1)
    have kc : ∀ c, (c < 36 ∨ 38 < c) → (c < 51 ∨ 178 < c) → Ic c = I c := fun c h0 h1 => by rw [f5 c (by omega), f3 c (by omega) (by omega), f1' c (by omega)]
    have cs36 : CS ν 36 σi Ic := cs1.eq (by rw [f5 _ (by omega), f3 _ (by omega) (by omega)]) (by rw [f5 _ (by omega), f3 _ (by omega) (by omega)]) (by rw [f5 _ (by omega), f3 _ (by omega) (by omega)])
    have rg51 : Ring ν 51 53 ki Ic := rg3.fr (fun c h1 h2 => f5 c (by omega))
    obtain ⟨Ia, hIa⟩ : ∃ Ia, Ia = upd2 (upd2 (upd2 Ic 310 0 0) 310 25 (Ic 310 49)) 310 45 (Ic 310 50) := ⟨_, rfl⟩
    have ka : ∀ c, c ≠ 310 → Ia c = Ic c := fun c hc => by rw [hIa, u2_c hc, u2_c hc, u2_c hc]
    have ka3 : ∀ j, j ≠ 0 → j ≠ 25 → j ≠ 45 → Ia 310 j = I 310 j := fun j h1 h2 h3 => by rw [hIa, u2_ne (by omega), u2_ne (by omega), u2_ne (by omega), kc 310 (by omega) (by omega)]
    have a25 : Ia 310 25 = I 310 49 := by rw [hIa, u2_ne (by omega), u2_at, kc 310 (by omega) (by omega)]
    have a45 : Ia 310 45 = I 310 50 := by rw [hIa, u2_at, kc 310 (by omega) (by omega)]
    obtain ⟨I6, e6, f6, d6⟩ := m_restore_32 (N := N) (I := Ia) (by omega)
    obtain ⟨I7, e7, f7, d7⟩ := m_cp_335_318 (N := N) (I := I6) (by omega)
    obtain ⟨I9, e9, f9, d9⟩ := m_cp_336_333 (N := N) (I := I7) (by omega)
    have kI : ∀ c, c ≠ 310 → c ≠ 317 → c ≠ 318 → c ≠ 333 → I9 c = Ic c := fun c h1 h2 h3 h4 => by rw [f9 c h4, f7 c h3, f6 c h2, ka c h1]
    have kk : ∀ c, c ≠ 310 → c ≠ 317 → c ≠ 318 → c ≠ 333 → (c < 36 ∨ 38 < c) → (c < 51 ∨ 178 < c) → I9 c = I c := fun c h1 h2 h3 h4 h5 h6 => by rw [kI c h1 h2 h3 h4, kc c h5 h6]
    have k310 : I9 310 = Ia 310 := by rw [f9 310 (by omega), f7 310 (by omega), f6 310 (by omega)]
    have k3 : ∀ j, j ≠ 0 → j ≠ 25 → j ≠ 45 → I9 310 j = I 310 j := fun j h1 h2 h3 => by rw [k310, ka3 j h1 h2 h3]
    refine ⟨1, Ic, I9, ?_, ?_, ⟨ν, σi, ki, vi, hn, gi, ?_, ?_, cs36.eq (kI _ (by omega) (by omega) (by omega) (by omega)) (kI _ (by omega) (by omega) (by omega) (by omega)) (kI _ (by omega) (by omega) (by omega) (by omega)), ?_, ⟨h40, hgk, rg51.fr (fun c h1 h2 => kI c (by omega) (by omega) (by omega) (by omega)), by rw [k310, a25]; exact rws.1, fun j hj => ?_⟩, ⟨g1, g2, ?_, ?_, fun j hj k hk => ⟨?_, ?_⟩⟩, ?_, ?_, ?_⟩, ?_⟩
    · unfold mX10_restore
      rw [i2, if_neg (by decide), e1, ob_some, e3, ob_some, e5, ob_some]
    · unfold mX11_restore
      have q48 : (upd2 Ic 310 0 0) 310 48 = 1 := by rw [u2_ne (by omega), kc 310 (by omega) (by omega), i1, i2]
      rw [q48, if_neg (by decide)]
      simp only [nm_n]
      rw [show upd2 (upd2 (upd2 Ic 310 0 0) 310 25 ((upd2 Ic 310 0 0) 310 49)) 310 45 ((upd2 (upd2 Ic 310 0 0) 310 25 ((upd2 Ic 310 0 0) 310 49)) 310 50) = Ia by
        rw [hIa, u2_ne (show ¬ (310 = 310 ∧ 49 = 0) by omega), u2_ne (show ¬ (310 = 310 ∧ 50 = 25) by omega), u2_ne (show ¬ (310 = 310 ∧ 50 = 0) by omega)], e6, ob_some, e7, ob_some, e9, ob_some]
    · exact ⟨by rw [kk 2 (by omega) (by omega) (by omega) (by omega) (by omega) (by omega)]; exact c1.1, by rw [kk 2 (by omega) (by omega) (by omega) (by omega) (by omega) (by omega)]; exact c1.2.1, by rw [kk 2 (by omega) (by omega) (by omega) (by omega) (by omega) (by omega)]; exact c1.2.2.1, fun l hl j hj => by rw [kk _ (by omega) (by omega) (by omega) (by omega) (by omega) (by omega)]; exact c1.2.2.2.1 l hl j hj, fun l hl j hj => by rw [kk _ (by omega) (by omega) (by omega) (by omega) (by omega) (by omega)]; exact c1.2.2.2.2 l hl j hj⟩
    · exact ⟨by rw [k3 _ (by omega) (by omega) (by omega)]; exact m1.1, by rw [k3 _ (by omega) (by omega) (by omega)]; exact m1.2.1, by rw [k3 _ (by omega) (by omega) (by omega)]; exact m1.2.2.1, by rw [kk 313 (by omega) (by omega) (by omega) (by omega) (by omega) (by omega)]; exact m1.2.2.2.1, by rw [kk 315 (by omega) (by omega) (by omega) (by omega) (by omega) (by omega)]; exact m1.2.2.2.2⟩
    · refine MS.mv hn (gi.wf hn) mi (fun i hi => ?_)
      rw [Nat.zero_add, f9 317 (by omega), f7 317 (by omega), d6 i hi, ka 334 (by omega), kc 334 (by omega) (by omega)]
    · refine MS.mv hn ((hgk _ (List.getElem_mem hj)).wf hn) (rws.2 j hj) (fun i hi => ?_)
      rw [f9 318 (by omega), d7 _ (by omega), f6 335 (by omega), ka 335 (by omega), kc 335 (by omega) (by omega)]
    · rw [kI 173 (by omega) (by omega) (by omega) (by omega)]; exact s5
    · rw [k310, a45]; exact g4
    · rw [kI _ (by omega) (by omega) (by omega) (by omega)]; exact v5 j hj k hk
    · rw [d9 _ (by omega), f7 336 (by omega), f6 336 (by omega), ka 336 (by omega), kc 336 (by omega) (by omega)]; exact (g5 j hj k hk).2
    · refine ⟨by rw [k3 48 (by omega) (by omega) (by omega), kk 0 (by omega) (by omega) (by omega) (by omega) (by omega) (by omega)]; exact i1, Or.inr ⟨by rw [kk 0 (by omega) (by omega) (by omega) (by omega) (by omega) (by omega)]; exact i2, σi, ki, vi, gi, ci.eq (kk _ (by omega) (by omega) (by omega) (by omega) (by omega) (by omega)) (kk _ (by omega) (by omega) (by omega) (by omega) (by omega) (by omega)) (kk _ (by omega) (by omega) (by omega) (by omega) (by omega) (by omega)), mi.c (kk _ (by omega) (by omega) (by omega) (by omega) (by omega) (by omega)), ⟨h40, hgk, ?_, by rw [k3 49 (by omega) (by omega) (by omega)]; exact rws.1, fun j hj => (rws.2 j hj).c (kk _ (by omega) (by omega) (by omega) (by omega) (by omega) (by omega))⟩, g1, g2, by rw [kk 304 (by omega) (by omega) (by omega) (by omega) (by omega) (by omega)]; exact g3, by rw [k3 50 (by omega) (by omega) (by omega)]; exact g4, fun j hj k hk => by rw [kk (304 + 1 + k) (by omega) (by omega) (by omega) (by omega) (by omega) (by omega), kk 336 (by omega) (by omega) (by omega) (by omega) (by omega) (by omega)]; exact g5 j hj k hk⟩⟩
      obtain ⟨f, q1, q2, q3, q4⟩ := rg
      exact ⟨f, q1, by rw [kk 182 (by omega) (by omega) (by omega) (by omega) (by omega) (by omega)]; exact q2, by rw [kk 182 (by omega) (by omega) (by omega) (by omega) (by omega) (by omega)]; exact q3, fun j hj => (q4 j hj).eq (kk _ (by omega) (by omega) (by omega) (by omega) (by omega) (by omega)) (kk _ (by omega) (by omega) (by omega) (by omega) (by omega) (by omega)) (kk _ (by omega) (by omega) (by omega) (by omega) (by omega) (by omega))⟩
    · obtain ⟨n, t1, t2, t3, t4⟩ := tp
      exact ⟨n, t1, by rw [kk 0 (by omega) (by omega) (by omega) (by omega) (by omega) (by omega)]; exact t2, by rw [k3 _ (by omega) (by omega) (by omega)]; exact t3, fun j hj => by rw [kk 311 (by omega) (by omega) (by omega) (by omega) (by omega) (by omega), kk 1 (by omega) (by omega) (by omega) (by omega) (by omega) (by omega)]; exact t4 j hj⟩
    · unfold Ctr
      rw [k3 4 (by omega) (by omega) (by omega), kk 0 (by omega) (by omega) (by omega) (by omega) (by omega) (by omega), kk 312 (by omega) (by omega) (by omega) (by omega) (by omega) (by omega)]
      exact ct
    · obtain ⟨m, q1, q2, q3⟩ := mv
      exact ⟨m, by omega, by rw [kk 43 (by omega) (by omega) (by omega) (by omega) (by omega) (by omega)]; exact q2, fun s hs => by rw [kk 49 (by omega) (by omega) (by omega) (by omega) (by omega) (by omega)]; exact q3 s hs⟩
end Steps8
