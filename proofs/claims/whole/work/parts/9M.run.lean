/-! line by line; the class -/
def pLine (b : Nat → Nat) (n : Nat) (ν : Nt) (s : RdS) : Nt × RdS :=
  if isW 1 4 b s.2.2 then (if ν.ln < 16 then (addL ν (lkV b n ν.nn s), lk6 b n ν.nn s) else (ν, flg 2 s))
  else if isW 2 6 b s.2.2 then (if ν.tn < 9 then (addT ν (tuV b n ν.nn s), tu8 b n ν.nn s) else (ν, flg 2 s))
  else (ν, flg 1 s)
def pRun (b : Nat → Nat) (n : Nat) : Nat → Nt → RdS → Nt × RdS
  | 0, ν, s => (ν, s)
  | m + 1, ν, s => if s.1 = 0 ∧ s.2.2.1 ≠ 0 then pRun b n m (pLine b n ν s).1 (pLine b n ν s).2 else (ν, s)
section Runs
variable {b : Nat → Nat} {n N : Nat} {I : gI} {s : RdS} {ν : Nt}
theorem flg_t {f : Nat} : (flg f s).2.2 = s.2.2 := by
  unfold flg
  split <;> rfl
theorem flg_n {f : Nat} (hf : f ≠ 0) : ¬ (flg f s).1 = 0 := fun q => absurd (flg_0 q).2.1 hf
theorem tkAt_se {e : Nat} : (tkAt b n e).2.1 ≤ (tkAt b n e).2.2.1 := by
  by_cases h : (tkAt b n e).1 = 0
  · unfold tkAt at h ⊢
    by_cases h1 : n ≤ rn blk b n e
    · rw [if_pos h1]; exact Nat.le_refl _
    · rw [if_neg h1] at h ⊢
      by_cases h2 : ltr (b (rn blk b n e)) = true
      · rw [if_pos h2] at h
        exact absurd (show (1 : Nat) = 0 from h) (by decide)
      · rw [if_neg h2] at h ⊢
        by_cases h3 : dgt (b (rn blk b n e)) = true
        · rw [if_pos h3] at h
          exact absurd (show (2 : Nat) = 0 from h) (by decide)
        · rw [if_neg h3]
          exact Nat.le_succ _
  · exact Nat.le_of_lt ((tkAt_f (b := b) (n := n) (e := e)).2 h).1
theorem en_acc : s.2.2.2.2.1 ≤ (acc b n s).2.2.2.2.1 := by
  unfold acc
  split
  · exact Nat.le_trans (tkAt_f (b := b) (n := n) (e := s.2.2.2.2.1)).1 tkAt_se
  · exact Nat.le_refl _
theorem en_af {f : Nat} : s.2.2.2.2.1 ≤ (acc b n (flg f s)).2.2.2.2.1 := by
  have h := en_acc (b := b) (n := n) (s := flg f s)
  rw [flg_t] at h
  exact h
theorem en_num {lo hi : Nat} : s.2.2.2.2.1 ≤ (rNum b n lo hi s).2.2.2.2.1 := en_af
theorem en_nod {nn : Nat} {x : Int32} : s.2.2.2.2.1 ≤ (rNod b n nn x s).2.2.2.2.1 := en_af
theorem en_opt {lo hi : Nat} : s.2.2.2.2.1 ≤ (rOpt b n lo hi s).2.2.2.2.1 := by
  unfold rOpt
  split
  · exact en_num
  · exact Nat.le_refl _
theorem st_sem (h : (rSem b n s).1 = 0) : s.2.2.2.2.1 ≤ (rSem b n s).2.2.2.1 := by
  have h1 := acc_0 h
  unfold rSem
  unfold acc
  rw [if_pos h1, flg_t]
  exact (tkAt_f (b := b) (n := n) (e := s.2.2.2.2.1)).1
theorem st_lk {nn : Nat} (h : (lk6 b n nn s).1 = 0) : s.2.2.2.2.1 ≤ (lk6 b n nn s).2.2.2.1 := by
  rw [lk6_c] at h ⊢
  have h1 := st_sem h
  have h2 := en_acc (b := b) (n := n) (s := s)
  have h3 : (acc b n s).2.2.2.2.1 ≤ (lk1 b n nn s).2.2.2.2.1 := by rw [lk1_c]; exact en_nod
  have h4 : (lk1 b n nn s).2.2.2.2.1 ≤ (lk2 b n nn s).2.2.2.2.1 := by rw [lk2_c]; exact en_nod
  have h5 : (lk2 b n nn s).2.2.2.2.1 ≤ (lk3 b n nn s).2.2.2.2.1 := by rw [lk3_c]; exact en_num
  have h6 : (lk3 b n nn s).2.2.2.2.1 ≤ (lk4 b n nn s).2.2.2.2.1 := by rw [lk4_c]; exact en_num
  have h7 : (lk4 b n nn s).2.2.2.2.1 ≤ (lk5 b n nn s).2.2.2.2.1 := by rw [lk5_c]; exact en_opt
  omega
theorem st_tu {nn : Nat} (h : (tu8 b n nn s).1 = 0) : s.2.2.2.2.1 ≤ (tu8 b n nn s).2.2.2.1 := by
  rw [tu8_c] at h ⊢
  have h1 := st_sem h
  have h2 := en_acc (b := b) (n := n) (s := s)
  have h3 : (acc b n s).2.2.2.2.1 ≤ (lk1 b n nn s).2.2.2.2.1 := by rw [lk1_c]; exact en_nod
  have h4 : (lk1 b n nn s).2.2.2.2.1 ≤ (lk2 b n nn s).2.2.2.2.1 := by rw [lk2_c]; exact en_nod
  have h5 : (lk2 b n nn s).2.2.2.2.1 ≤ (lk3 b n nn s).2.2.2.2.1 := by rw [lk3_c]; exact en_num
  have h6 : (lk3 b n nn s).2.2.2.2.1 ≤ (tu4 b n nn s).2.2.2.2.1 := by rw [tu4_c]; exact en_num
  have h7 : (tu4 b n nn s).2.2.2.2.1 ≤ (tu5 b n nn s).2.2.2.2.1 := by rw [tu5_c]; exact en_num
  have h8 : (tu5 b n nn s).2.2.2.2.1 ≤ (tu6 b n nn s).2.2.2.2.1 := by rw [tu6_c]; exact en_opt
  have h9 : (tu6 b n nn s).2.2.2.2.1 ≤ (tu7 b n nn s).2.2.2.2.1 := by
    unfold tu7
    split
    · exact en_opt
    · exact Nat.le_refl _
  omega
theorem st_line (h : (pLine b n ν s).2.1 = 0) : s.2.2.2.2.1 ≤ (pLine b n ν s).2.2.2.2.1 := by
  unfold pLine at h ⊢
  by_cases h1 : isW 1 4 b s.2.2
  · rw [if_pos h1] at h ⊢
    by_cases h2 : ν.ln < 16
    · rw [if_pos h2] at h ⊢
      have hz := st_lk (b := b) (n := n) (s := s) (nn := ν.nn)
      generalize lk6 b n ν.nn s = z at h hz ⊢
      exact hz h
    · rw [if_neg h2] at h; exact absurd h (flg_n (by decide))
  · rw [if_neg h1] at h ⊢
    by_cases h3 : isW 2 6 b s.2.2
    · rw [if_pos h3] at h ⊢
      by_cases h2 : ν.tn < 9
      · rw [if_pos h2] at h ⊢
        have hz := st_tu (b := b) (n := n) (s := s) (nn := ν.nn)
        generalize tu8 b n ν.nn s = z at h hz ⊢
        exact hz h
      · rw [if_neg h2] at h; exact absurd h (flg_n (by decide))
    · rw [if_neg h3] at h; exact absurd h (flg_n (by decide))
theorem wf_lk (hn : WfN ν) (hl : ν.ln < 16) (q : (lk6 b n ν.nn s).1 = 0) : WfN (addL ν (lkV b n ν.nn s)) := by
  have q5 : (lk5 b n ν.nn s).1 = 0 := rSem_0 (by rw [← lk6_c]; exact q)
  have q4 : (lk4 b n ν.nn s).1 = 0 := rOpt_0 (by rw [← lk5_c]; exact q5)
  have p4 := rNum_0 (s := lk3 b n ν.nn s) (by rw [← lk4_c]; exact q4)
  have p3 := rNum_0 (s := lk2 b n ν.nn s) (by rw [← lk3_c]; exact p4.1)
  have p2 := rNod_0 (s := lk1 b n ν.nn s) (by rw [← lk2_c]; exact p3.1)
  have p1 := rNod_0 (s := acc b n s) (by rw [← lk1_c]; exact p2.1)
  have p5 : lkV b n ν.nn s 4 ≤ 15 := by
    by_cases hk : (lk4 b n ν.nn s).2.2.1 = 2
    · rw [lkV_4a hk]
      rw [lk5_c, rOpt_2 hk] at q5
      exact (rNum_0 q5).2.2.2.2
    · rw [lkV_4b hk]; exact Nat.zero_le _
  refine ⟨hn.1, hn.2.1, hl, hn.2.2.2.1, fun l hl' => ?_, hn.2.2.2.2.2⟩
  have hl2 : l < ν.ln + 1 := hl'
  show (if l = ν.ln then lkV b n ν.nn s 0 else ν.L l 0) < ν.nn ∧ (if l = ν.ln then lkV b n ν.nn s 1 else ν.L l 1) < ν.nn ∧ (if l = ν.ln then lkV b n ν.nn s 0 else ν.L l 0) ≠ (if l = ν.ln then lkV b n ν.nn s 1 else ν.L l 1) ∧ 1 ≤ (if l = ν.ln then lkV b n ν.nn s 2 else ν.L l 2) ∧ (if l = ν.ln then lkV b n ν.nn s 2 else ν.L l 2) ≤ 99 ∧ 1 ≤ (if l = ν.ln then lkV b n ν.nn s 3 else ν.L l 3) ∧ (if l = ν.ln then lkV b n ν.nn s 3 else ν.L l 3) ≤ 99 ∧ (if l = ν.ln then lkV b n ν.nn s 4 else ν.L l 4) ≤ 15
  by_cases e : l = ν.ln
  · rw [if_pos e, if_pos e, if_pos e, if_pos e, if_pos e, lkV_0, lkV_1, lkV_2, lkV_3]
    exact ⟨p1.2.2.2.1, p2.2.2.2.1, fun h => p2.2.2.2.2 (by rw [h]), p3.2.2.2.1, p3.2.2.2.2, p4.2.2.2.1, p4.2.2.2.2, p5⟩
  · rw [if_neg e, if_neg e, if_neg e, if_neg e, if_neg e]
    exact hn.2.2.2.2.1 l (by omega)
theorem wf_tu (hn : WfN ν) (hl : ν.tn < 9) (q : (tu8 b n ν.nn s).1 = 0) : WfN (addT ν (tuV b n ν.nn s)) := by
  have q7 : (tu7 b n ν.nn s).1 = 0 := rSem_0 (by rw [← tu8_c]; exact q)
  have q6 : (tu6 b n ν.nn s).1 = 0 := by
    have q7' := q7
    unfold tu7 at q7'
    by_cases hk : (tu5 b n ν.nn s).2.2.1 = 2
    · rw [if_pos hk] at q7'; exact rOpt_0 q7'
    · rw [if_neg hk] at q7'; exact q7'
  have q5 : (tu5 b n ν.nn s).1 = 0 := rOpt_0 (by rw [← tu6_c]; exact q6)
  have p5 := rNum_0 (s := tu4 b n ν.nn s) (by rw [← tu5_c]; exact q5)
  have p4 := rNum_0 (s := lk3 b n ν.nn s) (by rw [← tu4_c]; exact p5.1)
  have p3 := rNum_0 (s := lk2 b n ν.nn s) (by rw [← lk3_c]; exact p4.1)
  have p2 := rNod_0 (s := lk1 b n ν.nn s) (by rw [← lk2_c]; exact p3.1)
  have p1 := rNod_0 (s := acc b n s) (by rw [← lk1_c]; exact p2.1)
  have p6 : tuV b n ν.nn s 5 ≤ 15 := by
    by_cases hk : (tu5 b n ν.nn s).2.2.1 = 2
    · rw [tuV_5a hk]
      rw [tu6_c, rOpt_2 hk] at q6
      exact (rNum_0 q6).2.2.2.2
    · rw [tuV_5b hk]; exact Nat.zero_le _
  have p7 : 1 ≤ tuV b n ν.nn s 6 ∧ tuV b n ν.nn s 6 ≤ 7 := by
    by_cases hk : (tu5 b n ν.nn s).2.2.1 = 2 ∧ (tu6 b n ν.nn s).2.2.1 = 2
    · rw [tuV_6a hk.1 hk.2]
      have q7' := q7
      unfold tu7 at q7'
      rw [if_pos hk.1, rOpt_2 hk.2] at q7'
      exact (rNum_0 q7').2.2.2
    · rw [tuV_6b hk]; decide
  refine ⟨hn.1, hn.2.1, hn.2.2.1, hl, hn.2.2.2.2.1, fun l hl' => ?_⟩
  have hl2 : l < ν.tn + 1 := hl'
  show (if l = ν.tn then tuV b n ν.nn s 0 else ν.T l 0) < ν.nn ∧ (if l = ν.tn then tuV b n ν.nn s 1 else ν.T l 1) < ν.nn ∧ (if l = ν.tn then tuV b n ν.nn s 0 else ν.T l 0) ≠ (if l = ν.tn then tuV b n ν.nn s 1 else ν.T l 1) ∧ 1 ≤ (if l = ν.tn then tuV b n ν.nn s 2 else ν.T l 2) ∧ (if l = ν.tn then tuV b n ν.nn s 2 else ν.T l 2) ≤ 99 ∧ (if l = ν.tn then tuV b n ν.nn s 3 else ν.T l 3) ≤ 7 ∧ (if l = ν.tn then tuV b n ν.nn s 4 else ν.T l 4) ≤ (if l = ν.tn then tuV b n ν.nn s 3 else ν.T l 3) ∧ (if l = ν.tn then tuV b n ν.nn s 5 else ν.T l 5) ≤ 15 ∧ 1 ≤ (if l = ν.tn then tuV b n ν.nn s 6 else ν.T l 6) ∧ (if l = ν.tn then tuV b n ν.nn s 6 else ν.T l 6) ≤ 7
  by_cases e : l = ν.tn
  · rw [if_pos e, if_pos e, if_pos e, if_pos e, if_pos e, if_pos e, if_pos e, tuV_0, tuV_1, tuV_2, tuV_3, tuV_4]
    exact ⟨p1.2.2.2.1, p2.2.2.2.1, fun h => p2.2.2.2.2 (by rw [h]), p3.2.2.2.1, p3.2.2.2.2, p4.2.2.2.2, p5.2.2.2.2, p6, p7⟩
  · rw [if_neg e, if_neg e, if_neg e, if_neg e, if_neg e, if_neg e, if_neg e]
    exact hn.2.2.2.2.2 l (by omega)
theorem wf_line (hn : WfN ν) (h : (pLine b n ν s).2.1 = 0) : WfN (pLine b n ν s).1 := by
  unfold pLine at h ⊢
  by_cases h1 : isW 1 4 b s.2.2
  · rw [if_pos h1] at h ⊢
    by_cases h2 : ν.ln < 16
    · rw [if_pos h2] at h ⊢
      have hz := wf_lk (b := b) (n := n) (s := s) hn h2
      generalize lk6 b n ν.nn s = z at h hz ⊢
      exact hz h
    · rw [if_neg h2]; exact hn
  · rw [if_neg h1] at h ⊢
    by_cases h3 : isW 2 6 b s.2.2
    · rw [if_pos h3] at h ⊢
      by_cases h2 : ν.tn < 9
      · rw [if_pos h2] at h ⊢
        have hz := wf_tu (b := b) (n := n) (s := s) hn h2
        generalize tu8 b n ν.nn s = z at h hz ⊢
        exact hz h
      · rw [if_neg h2]; exact hn
    · rw [if_neg h3]; exact hn
/-! the class -/
theorem c_line {G : gI → Option gI} (hN : 2000 ≤ N) (h : CSt b n s I) (h0 : s.1 = 0) (hD : DrC ν I) (hn : WfN ν) : ∃ I', Option.bind (mX5_isWord_s1 N I) (fun r21 => if r21 = 0 then (Option.bind (mX5_isWord_s2 N I) (fun r24 => if r24 = 0 then (Option.bind (mX5_flag 1 I) (fun I27 => G I27)) else (Option.bind (mX5_readTunnel N (I 15 2) I) (fun I29 => G I29)))) else (Option.bind (mX5_readLink N (I 15 1) I) (fun I31 => G I31))) = G I' ∧ CSt b n (pLine b n ν s).2 I' ∧ ((pLine b n ν s).2.1 = 0 → DrC (pLine b n ν s).1 I') ∧ ∀ c, c < 15 ∨ 28 < c → I' c = I c := by
  have hln := hn.2.2.1
  have htn := hn.2.2.2.1
  unfold pLine
  by_cases h1 : isW 1 4 b s.2.2
  · rw [if_pos h1, (c_wd1 hN h).1 h1, ob_some, if_neg (by decide), hD.2.1]
    by_cases h2 : ν.ln < 16
    · obtain ⟨I', e, r1, r2, r3⟩ := c_link hN h h0 hD hn h2
      rw [if_pos h2, e, ob_some]
      generalize addL ν (lkV b n ν.nn s) = w at r2 ⊢
      generalize lk6 b n ν.nn s = z at r1 r2 ⊢
      exact ⟨I', rfl, r1, r2, r3⟩
    · have e16 : ν.ln = 16 := by omega
      refine ⟨flI 2 I, ?_, ?_, ?_, fun c hc => flI_c (by omega)⟩
      · rw [e16]
        unfold mX5_readLink
        rw [if_neg (by decide), c_flag (x := 2) (f := 2) rfl (by decide), ob_some, ob_some]
      · rw [if_neg h2]; exact c_flI h (by omega)
      · rw [if_neg h2]; exact fun q => absurd q (flg_n (by decide))
  · rw [if_neg h1, (c_wd1 hN h).2 h1, ob_some, if_pos rfl]
    by_cases h3 : isW 2 6 b s.2.2
    · rw [if_pos h3, (c_wd2 hN h).1 h3, ob_some, if_neg (by decide), hD.2.2.1]
      by_cases h2 : ν.tn < 9
      · obtain ⟨I', e, r1, r2, r3⟩ := c_tun hN h h0 hD hn h2
        rw [if_pos h2, e, ob_some]
        generalize addT ν (tuV b n ν.nn s) = w at r2 ⊢
        generalize tu8 b n ν.nn s = z at r1 r2 ⊢
        exact ⟨I', rfl, r1, r2, r3⟩
      · have e16 : ν.tn = 9 := by omega
        refine ⟨flI 2 I, ?_, ?_, ?_, fun c hc => flI_c (by omega)⟩
        · rw [e16]
          unfold mX5_readTunnel
          rw [if_neg (by decide), c_flag (x := 2) (f := 2) rfl (by decide), ob_some, ob_some]
        · rw [if_neg h2]; exact c_flI h (by omega)
        · rw [if_neg h2]; exact fun q => absurd q (flg_n (by decide))
    · rw [if_neg h3, (c_wd2 hN h).2 h3, ob_some, if_pos rfl, c_flag (x := 1) (f := 1) rfl (by decide), ob_some]
      exact ⟨flI 1 I, rfl, c_flI h (by omega), fun q => absurd q (flg_n (by decide)), fun c hc => flI_c (by omega)⟩
theorem CSt.st (h : CSt b n s I) : s.2.2.2.1 ≤ n ∧ (s.2.2.1 ≠ 0 → s.2.2.2.1 < n ∧ s.2.2.2.1 < s.2.2.2.2.1) := by
  have h1 := h.2.1.2.2.2.2.2
  obtain ⟨e, he⟩ := h.2.2.2.2.2
  refine ⟨by omega, fun q => ?_⟩
  rw [he] at q ⊢
  have := tkAt_f.2 q
  exact ⟨this.2, this.1⟩
theorem c_run (hN : 2000 ≤ N) : ∀ (m i fu : Nat) (ν : Nt) (s : RdS) (I : gI), m < fu → CSt b n s I → (s.1 = 0 → n + 1 ≤ m + s.2.2.2.1 ∧ i ≤ s.2.2.2.1 ∧ DrC ν I ∧ WfN ν) → ∃ I', mX5_read_69 N fu (nI i) I = some I' ∧ CSt b n (pRun b n m ν s).2 I' ∧ ((pRun b n m ν s).2.1 = 0 → DrC (pRun b n m ν s).1 I' ∧ WfN (pRun b n m ν s).1) ∧ ∀ c, c < 15 ∨ 28 < c → I' c = I c := by
  intro m
  induction m with
  | zero =>
    intro i fu ν s I h1 hs hg
    obtain ⟨k, rfl⟩ : ∃ k, fu = k + 1 := ⟨fu - 1, by omega⟩
    have h0 : ¬ s.1 = 0 := fun q => by
      have h2 := hg q
      have h3 := hs.st.1
      omega
    refine ⟨I, ?_, hs, fun q => absurd q h0, fun _ _ => rfl⟩
    rw [mX5_read_69, if_neg (fun q => h0 (hs.z.mp q)), ite_self]
  | succ m ih =>
    intro i fu ν s I h1 hs hg
    obtain ⟨k, rfl⟩ : ∃ k, fu = k + 1 := ⟨fu - 1, by omega⟩
    rw [pRun]
    by_cases hc : s.1 = 0 ∧ s.2.2.1 ≠ 0
    · obtain ⟨h0, hk⟩ := hc
      obtain ⟨g1, g2, g3, g4⟩ := hg h0
      have h2 := hs.st.2 hk
      have h7 := hs.1.1
      rw [if_pos ⟨h0, hk⟩]
      obtain ⟨I1, e1, s1, d1, f1⟩ := c_line (G := mX5_read_69 N k (nI i + 1)) hN hs h0 g3 g4
      have q1 := st_line (b := b) (n := n) (ν := ν) (s := s)
      have q2 := wf_line (b := b) (n := n) (ν := ν) (s := s) g4
      generalize pLine b n ν s = P at s1 d1 q1 q2 ⊢
      obtain ⟨I', e2, s2, d2, f2⟩ := ih (i + 1) k P.1 P.2 I1 (by omega) s1 (fun q => ⟨by have := q1 q; omega, by have := q1 q; omega, d1 q, q2 q⟩)
      refine ⟨I', ?_, s2, d2, fun c hc => by rw [f2 c hc, f1 c hc]⟩
      rw [mX5_read_69, if_neg (show ¬ (700 : Int32) ≤ nI i from nI_ge (b := 700) (by omega) (by omega)), if_pos (hs.z.mpr h0), if_neg (fun q => hk ((hs.k (x := 0) (k := 0) rfl (by omega)).mp q)), e1, nI_1, e2]
    · rw [if_neg hc]
      refine ⟨I, ?_, hs, fun q => ⟨(hg q).2.2.1, (hg q).2.2.2⟩, fun _ _ => rfl⟩
      rw [mX5_read_69]
      by_cases h0 : s.1 = 0
      · have hk : s.2.2.1 = 0 := Classical.byContradiction fun q => hc ⟨h0, q⟩
        rw [if_pos (hs.z.mpr h0), if_pos ((hs.k (x := 0) (k := 0) rfl (by omega)).mpr hk), ite_self]
      · rw [if_neg (fun q => h0 (hs.z.mp q)), ite_self]
end Runs
