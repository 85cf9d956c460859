/-! line by line; the reference -/
section MRuns
variable {b : Nat → Nat} {n N : Nat} {I : gI} {J : gJ} {s : RdS} {ν : Nt}
theorem DrM.fk {I' : gI} {J J' : gJ} (h : DrM ν I) (hf : FrK I I' J J') : DrM ν I' := ⟨by rw [hf.2.1 16 (by omega)]; exact h.1, by rw [hf.2.1 17 (by omega)]; exact h.2.1, by rw [hf.2.1 18 (by omega)]; exact h.2.2.1, by rw [hf.1 314 (by decide)]; exact h.2.2.2.1, by rw [hf.1 316 (by decide)]; exact h.2.2.2.2⟩
theorem rSem_b (h0 : ¬ s.1 = 0) : rSem b n s = s := by unfold rSem; rw [flg_b h0, acc_b h0]
theorem m_beg0 (hN : 2000 ≤ N) (h : MSt b n s I J) (h0 : s.1 = 0) : ∃ I' J', mX11_begins N 0 I J = some (1, I', J') ∧ MSt b n (acc b n s) I' J' ∧ FrK I I' J J' := by
  obtain ⟨I', J', e1, e2, e3⟩ := m_adv hN h h0
  refine ⟨I', J', ?_, e2, e3⟩
  unfold mX11_begins
  rw [if_pos rfl, ob_some, m_good1 h h0, ob_some, if_neg (by decide), e1, ob_some]
theorem m_beg1 (h : MSt b n s I J) : mX11_begins N 1 I J = some (0, wrI 2 I, J) := by
  have hs := m_wrI h (f := 2) (by omega)
  unfold mX11_begins
  rw [if_neg (by decide), m_wrong (x := 2) (f := 2) rfl (by decide), ob_some, ob_some, m_good0 hs (flg_n (by decide)), ob_some, if_pos rfl]
set_option maxHeartbeats 2000000 in
theorem m_line (hN : 2000 ≤ N) (h : MSt b n s I J) (h0 : s.1 = 0) (hD : DrM ν I) (hn : WfN ν) : ∃ I' J', mX11_line N I J = some (I', J') ∧ MSt b n (pLine b n ν s).2 I' J' ∧ ((pLine b n ν s).2.1 = 0 → DrM (pLine b n ν s).1 I') ∧ FrL I I' J J' := by
  have hln := hn.2.2.1
  have htn := hn.2.2.2.1
  unfold mX11_line pLine
  rw [m_sp1, ob_some]
  by_cases h1 : isW 1 4 b s.2.2
  · rw [if_pos h1, (m_wd1 h).1 h1, ob_some, if_neg (by decide), hD.2.1]
    by_cases h2 : ν.ln < 16
    · obtain ⟨I1, J1, e1, s1, f1⟩ := m_beg0 hN h h0
      obtain ⟨I2, J2, e2, s2, d2, f2⟩ := m_link hN s1 (hD.fk f1) hn h2
      obtain ⟨x, I3, J3, ex, e3, s3, f3⟩ := m_sem hN s2
      rw [if_neg (show ¬ nI ν.ln = (16 : Int32) from fun q => absurd ((nI_eq (b := 16) (by omega) (by omega)).mp q) (by omega)), ob_some, e1, ob_some]
      dsimp only
      rw [if_neg (by decide), e2, ob_some]
      dsimp only
      rw [ob_some]
      dsimp only
      rw [ex, ob_some, e3, ob_some, if_pos h2]
      have d3 : (lk6 b n ν.nn s).1 = 0 → DrM (addL ν (lkV b n ν.nn s)) I3 := fun q => (d2 (rSem_0 (by rw [← lk6_c]; exact q))).fk f3
      rw [← lk6_c] at s3
      generalize addL ν (lkV b n ν.nn s) = w at d3 ⊢
      generalize lk6 b n ν.nn s = z at s3 d3 ⊢
      exact ⟨I3, J3, rfl, s3, d3, (f1.l.tr f2).tr f3.l⟩
    · have e16 : ν.ln = 16 := by omega
      have hs := m_wrI h (f := 2) (by omega)
      have hb : ¬ (flg 2 s).1 = 0 := flg_n (by decide)
      obtain ⟨x, I3, J3, ex, e3, s3, f3⟩ := m_sem hN hs
      rw [rSem_b hb] at s3
      rw [e16, if_pos (show nI 16 = (16 : Int32) from rfl), ob_some, m_beg1 h, ob_some]
      dsimp only
      rw [if_pos rfl, ob_some]
      dsimp only
      rw [ex, ob_some, e3, ob_some, if_neg (by decide)]
      exact ⟨I3, J3, rfl, s3, fun q => absurd q hb, (wrI_fr.tr f3).l⟩
  · rw [if_neg h1, (m_wd1 h).2 h1, ob_some, if_pos rfl, m_sp2, ob_some]
    by_cases h3 : isW 2 6 b s.2.2
    · rw [if_pos h3, (m_wd2 h).1 h3, ob_some, if_neg (by decide), hD.2.2.1]
      by_cases h2 : ν.tn < 9
      · obtain ⟨I1, J1, e1, s1, f1⟩ := m_beg0 hN h h0
        obtain ⟨I2, J2, e2, s2, d2, f2⟩ := m_tun hN s1 (hD.fk f1) hn h2
        obtain ⟨x, I3, J3, ex, e3, s3, f3⟩ := m_sem hN s2
        rw [if_neg (show ¬ nI ν.tn = (9 : Int32) from fun q => absurd ((nI_eq (b := 9) (by omega) (by omega)).mp q) (by omega)), ob_some, e1, ob_some]
        dsimp only
        rw [if_neg (by decide), e2, ob_some]
        dsimp only
        rw [ob_some]
        dsimp only
        rw [ex, ob_some, e3, ob_some, if_pos h2]
        have d3 : (tu8 b n ν.nn s).1 = 0 → DrM (addT ν (tuV b n ν.nn s)) I3 := fun q => (d2 (rSem_0 (by rw [← tu8_c]; exact q))).fk f3
        rw [← tu8_c] at s3
        generalize addT ν (tuV b n ν.nn s) = w at d3 ⊢
        generalize tu8 b n ν.nn s = z at s3 d3 ⊢
        exact ⟨I3, J3, rfl, s3, d3, (f1.l.tr f2).tr f3.l⟩
      · have e16 : ν.tn = 9 := by omega
        have hs := m_wrI h (f := 2) (by omega)
        have hb : ¬ (flg 2 s).1 = 0 := flg_n (by decide)
        obtain ⟨x, I3, J3, ex, e3, s3, f3⟩ := m_sem hN hs
        rw [rSem_b hb] at s3
        rw [e16, if_pos (show nI 9 = (9 : Int32) from rfl), ob_some, m_beg1 h, ob_some]
        dsimp only
        rw [if_pos rfl, ob_some]
        dsimp only
        rw [ex, ob_some, e3, ob_some, if_neg (by decide)]
        exact ⟨I3, J3, rfl, s3, fun q => absurd q hb, (wrI_fr.tr f3).l⟩
    · have hs := m_wrI h (f := 1) (by omega)
      have hb : ¬ (flg 1 s).1 = 0 := flg_n (by decide)
      obtain ⟨x, I3, J3, ex, e3, s3, f3⟩ := m_sem hN hs
      rw [rSem_b hb] at s3
      rw [if_neg h3, (m_wd2 h).2 h3, ob_some, if_pos rfl, m_wrong (x := 1) (f := 1) rfl (by decide), ob_some, ob_some]
      dsimp only
      rw [ex, ob_some, e3, ob_some]
      exact ⟨I3, J3, rfl, s3, fun q => absurd q hb, (wrI_fr.tr f3).l⟩
theorem MSt.st (h : MSt b n s I J) : s.2.2.2.1 ≤ n ∧ (s.2.2.1 ≠ 0 → s.2.2.2.1 < n ∧ s.2.2.2.1 < s.2.2.2.2.1) := by
  have h1 := h.2.1.2.2.2.2.2.2.2
  obtain ⟨e, he⟩ := h.2.2.2.2.2
  refine ⟨by omega, fun q => ?_⟩
  rw [he] at q ⊢
  have := tkAt_f.2 q
  exact ⟨this.2, this.1⟩
theorem m_run (hN : 2000 ≤ N) : ∀ (m fu : Nat) (ν : Nt) (s : RdS) (I : gI) (J : gJ), m < fu → MSt b n s I J → (s.1 = 0 → n + 1 ≤ m + s.2.2.2.1 ∧ DrM ν I ∧ WfN ν) → ∃ I' J', mX11_network_130 N fu I J = some (I', J') ∧ MSt b n (pRun b n m ν s).2 I' J' ∧ ((pRun b n m ν s).2.1 = 0 → DrM (pRun b n m ν s).1 I') ∧ FrL I I' J J' := by
  intro m
  induction m with
  | zero =>
    intro fu ν s I J h1 hs hg
    obtain ⟨k, rfl⟩ : ∃ k, fu = k + 1 := ⟨fu - 1, by omega⟩
    have h0 : ¬ s.1 = 0 := fun q => by
      have h2 := hg q
      have h3 := hs.st.1
      omega
    refine ⟨I, J, ?_, hs, fun q => absurd q h0, FrK.rf.l⟩
    rw [mX11_network_130, m_good0 hs h0, ob_some, if_pos rfl]
  | succ m ih =>
    intro fu ν s I J h1 hs hg
    obtain ⟨k, rfl⟩ : ∃ k, fu = k + 1 := ⟨fu - 1, by omega⟩
    rw [pRun]
    by_cases hc : s.1 = 0 ∧ s.2.2.1 ≠ 0
    · obtain ⟨h0, hk⟩ := hc
      obtain ⟨g1, g3, g4⟩ := hg h0
      have h2 := hs.st.2 hk
      rw [if_pos ⟨h0, hk⟩]
      obtain ⟨I1, J1, e1, s1, d1, f1⟩ := m_line hN hs h0 g3 g4
      have q1 := st_line (b := b) (n := n) (ν := ν) (s := s)
      have q2 := wf_line (b := b) (n := n) (ν := ν) (s := s) g4
      generalize pLine b n ν s = P at s1 d1 q1 q2 ⊢
      obtain ⟨I', J', e2, s2, d2, f2⟩ := ih k P.1 P.2 I1 J1 (by omega) s1 (fun q => ⟨by have := q1 q; omega, d1 q, q2 q⟩)
      refine ⟨I', J', ?_, s2, d2, f1.tr f2⟩
      rw [mX11_network_130, m_good1 hs h0, ob_some, if_neg (by decide), if_neg (fun q => hk ((hs.k (x := 0) (k := 0) rfl (by omega)).mp q)), e1, ob_some]
      dsimp only
      exact e2
    · rw [if_neg hc]
      refine ⟨I, J, ?_, hs, fun q => (hg q).2.1, FrK.rf.l⟩
      rw [mX11_network_130]
      by_cases h0 : s.1 = 0
      · have hk : s.2.2.1 = 0 := Classical.byContradiction fun q => hc ⟨h0, q⟩
        rw [m_good1 hs h0, ob_some, if_neg (by decide), if_pos ((hs.k (x := 0) (k := 0) rfl (by omega)).mpr hk)]
      · rw [m_good0 hs h0, ob_some, if_pos rfl]
end MRuns
