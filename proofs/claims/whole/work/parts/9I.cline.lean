/-! a line of the text: a link, a tunnel; what comes out -/
def rOpt (b : Nat → Nat) (n lo hi : Nat) (s : RdS) : RdS := if s.2.2.1 = 2 then rNum b n lo hi s else s
def lk1 (b : Nat → Nat) (n nn : Nat) (s : RdS) : RdS := rNod b n nn (-1) (acc b n s)
def lk2 (b : Nat → Nat) (n nn : Nat) (s : RdS) : RdS := rNod b n nn (nI (acc b n s).2.2.2.2.2) (lk1 b n nn s)
def lk3 (b : Nat → Nat) (n nn : Nat) (s : RdS) : RdS := rNum b n 1 99 (lk2 b n nn s)
def lk4 (b : Nat → Nat) (n nn : Nat) (s : RdS) : RdS := rNum b n 1 99 (lk3 b n nn s)
def lk5 (b : Nat → Nat) (n nn : Nat) (s : RdS) : RdS := rOpt b n 0 15 (lk4 b n nn s)
def lk6 (b : Nat → Nat) (n nn : Nat) (s : RdS) : RdS := rSem b n (lk5 b n nn s)
def sel5 (v0 v1 v2 v3 v4 : Nat) : Nat → Nat
  | 0 => v0
  | 1 => v1
  | 2 => v2
  | 3 => v3
  | _ => v4
def lkV (b : Nat → Nat) (n nn : Nat) (s : RdS) : Nat → Nat := sel5 (acc b n s).2.2.2.2.2 (lk1 b n nn s).2.2.2.2.2 (lk2 b n nn s).2.2.2.2.2 (lk3 b n nn s).2.2.2.2.2 (if (lk4 b n nn s).2.2.1 = 2 then (lk4 b n nn s).2.2.2.2.2 else 0)
def tu4 (b : Nat → Nat) (n nn : Nat) (s : RdS) : RdS := rNum b n 0 7 (lk3 b n nn s)
def tu5 (b : Nat → Nat) (n nn : Nat) (s : RdS) : RdS := rNum b n 0 (lk3 b n nn s).2.2.2.2.2 (tu4 b n nn s)
def tu6 (b : Nat → Nat) (n nn : Nat) (s : RdS) : RdS := rOpt b n 0 15 (tu5 b n nn s)
def tu7 (b : Nat → Nat) (n nn : Nat) (s : RdS) : RdS := if (tu5 b n nn s).2.2.1 = 2 then rOpt b n 1 7 (tu6 b n nn s) else tu6 b n nn s
def tu8 (b : Nat → Nat) (n nn : Nat) (s : RdS) : RdS := rSem b n (tu7 b n nn s)
def sel7 (v0 v1 v2 v3 v4 v5 v6 : Nat) : Nat → Nat
  | 0 => v0
  | 1 => v1
  | 2 => v2
  | 3 => v3
  | 4 => v4
  | 5 => v5
  | _ => v6
def tuV (b : Nat → Nat) (n nn : Nat) (s : RdS) : Nat → Nat := sel7 (acc b n s).2.2.2.2.2 (lk1 b n nn s).2.2.2.2.2 (lk2 b n nn s).2.2.2.2.2 (lk3 b n nn s).2.2.2.2.2 (tu4 b n nn s).2.2.2.2.2 (if (tu5 b n nn s).2.2.1 = 2 then (tu5 b n nn s).2.2.2.2.2 else 0) (if (tu5 b n nn s).2.2.1 = 2 ∧ (tu6 b n nn s).2.2.1 = 2 then (tu6 b n nn s).2.2.2.2.2 else 7)
def addL (ν : Nt) (v : Nat → Nat) : Nt := ((ν.nn, ν.ln + 1, ν.tn), fun l j => if l = ν.ln then v j else ν.L l j, ν.T)
def addT (ν : Nt) (v : Nat → Nat) : Nt := ((ν.nn, ν.ln, ν.tn + 1), ν.L, fun t j => if t = ν.tn then v j else ν.T t j)
def DrC (ν : Nt) (I : gI) : Prop := I 15 0 = nI ν.nn ∧ I 15 1 = nI ν.ln ∧ I 15 2 = nI ν.tn ∧ (∀ l, l < ν.ln → ∀ j, j < 5 → I (16 + j) l = nI (ν.L l j)) ∧ (∀ t, t < ν.tn → ∀ j, j < 7 → I (21 + j) t = nI (ν.T t j))
def DrM (ν : Nt) (I : gI) : Prop := I 310 16 = nI ν.nn ∧ I 310 17 = nI ν.ln ∧ I 310 18 = nI ν.tn ∧ (∀ l, l < ν.ln → ∀ j, j < 5 → I 314 (5 * l + j) = nI (ν.L l j)) ∧ (∀ t, t < ν.tn → ∀ j, j < 7 → I 316 (7 * t + j) = nI (ν.T t j))
theorem u2_r {X Y : gI} {a j c : Nat} {v : Int32} (h : X c = Y c) : upd2 X a j v c = upd2 Y a j v c := by
  funext i
  by_cases e : c = a ∧ i = j
  · rw [e.1, e.2, u2_at, u2_at]
  · rw [u2_ne e, u2_ne e, h]
section CLines
variable {b : Nat → Nat} {n N : Nat} {I : gI} {s : RdS} {ν : Nt}
theorem rNum_b {lo hi : Nat} (h0 : ¬ s.1 = 0) : rNum b n lo hi s = s := by unfold rNum; rw [flg_b h0, acc_b h0]
theorem rOpt_b {lo hi : Nat} (h0 : ¬ s.1 = 0) : rOpt b n lo hi s = s := by
  unfold rOpt
  rw [rNum_b h0, ite_self]
theorem rOpt_2 {lo hi : Nat} (h : s.2.2.1 = 2) : rOpt b n lo hi s = rNum b n lo hi s := if_pos h
theorem rOpt_n {lo hi : Nat} (h : ¬ s.2.2.1 = 2) : rOpt b n lo hi s = s := if_neg h
theorem rOpt_0 {lo hi : Nat} (h : (rOpt b n lo hi s).1 = 0) : s.1 = 0 := by
  by_cases h2 : s.2.2.1 = 2
  · rw [rOpt_2 h2] at h; exact (rNum_0 h).1
  · rw [rOpt_n h2] at h; exact h
theorem sel5_0 {v0 v1 v2 v3 v4 : Nat} : sel5 v0 v1 v2 v3 v4 0 = v0 := rfl
theorem sel5_1 {v0 v1 v2 v3 v4 : Nat} : sel5 v0 v1 v2 v3 v4 1 = v1 := rfl
theorem sel5_2 {v0 v1 v2 v3 v4 : Nat} : sel5 v0 v1 v2 v3 v4 2 = v2 := rfl
theorem sel5_3 {v0 v1 v2 v3 v4 : Nat} : sel5 v0 v1 v2 v3 v4 3 = v3 := rfl
theorem sel5_4 {v0 v1 v2 v3 v4 : Nat} : sel5 v0 v1 v2 v3 v4 4 = v4 := rfl
theorem sel7_0 {v0 v1 v2 v3 v4 v5 v6 : Nat} : sel7 v0 v1 v2 v3 v4 v5 v6 0 = v0 := rfl
theorem sel7_1 {v0 v1 v2 v3 v4 v5 v6 : Nat} : sel7 v0 v1 v2 v3 v4 v5 v6 1 = v1 := rfl
theorem sel7_2 {v0 v1 v2 v3 v4 v5 v6 : Nat} : sel7 v0 v1 v2 v3 v4 v5 v6 2 = v2 := rfl
theorem sel7_3 {v0 v1 v2 v3 v4 v5 v6 : Nat} : sel7 v0 v1 v2 v3 v4 v5 v6 3 = v3 := rfl
theorem sel7_4 {v0 v1 v2 v3 v4 v5 v6 : Nat} : sel7 v0 v1 v2 v3 v4 v5 v6 4 = v4 := rfl
theorem sel7_5 {v0 v1 v2 v3 v4 v5 v6 : Nat} : sel7 v0 v1 v2 v3 v4 v5 v6 5 = v5 := rfl
theorem sel7_6 {v0 v1 v2 v3 v4 v5 v6 : Nat} : sel7 v0 v1 v2 v3 v4 v5 v6 6 = v6 := rfl
theorem lkV_0 {nn : Nat} : lkV b n nn s 0 = (acc b n s).2.2.2.2.2 := by unfold lkV; rw [sel5_0]
theorem lkV_1 {nn : Nat} : lkV b n nn s 1 = (lk1 b n nn s).2.2.2.2.2 := by unfold lkV; rw [sel5_1]
theorem lkV_2 {nn : Nat} : lkV b n nn s 2 = (lk2 b n nn s).2.2.2.2.2 := by unfold lkV; rw [sel5_2]
theorem lkV_3 {nn : Nat} : lkV b n nn s 3 = (lk3 b n nn s).2.2.2.2.2 := by unfold lkV; rw [sel5_3]
theorem lkV_4a {nn : Nat} (h : (lk4 b n nn s).2.2.1 = 2) : lkV b n nn s 4 = (lk4 b n nn s).2.2.2.2.2 := by unfold lkV; rw [sel5_4, if_pos h]
theorem lkV_4b {nn : Nat} (h : ¬ (lk4 b n nn s).2.2.1 = 2) : lkV b n nn s 4 = 0 := by unfold lkV; rw [sel5_4, if_neg h]
theorem tuV_0 {nn : Nat} : tuV b n nn s 0 = (acc b n s).2.2.2.2.2 := by unfold tuV; rw [sel7_0]
theorem tuV_1 {nn : Nat} : tuV b n nn s 1 = (lk1 b n nn s).2.2.2.2.2 := by unfold tuV; rw [sel7_1]
theorem tuV_2 {nn : Nat} : tuV b n nn s 2 = (lk2 b n nn s).2.2.2.2.2 := by unfold tuV; rw [sel7_2]
theorem tuV_3 {nn : Nat} : tuV b n nn s 3 = (lk3 b n nn s).2.2.2.2.2 := by unfold tuV; rw [sel7_3]
theorem tuV_4 {nn : Nat} : tuV b n nn s 4 = (tu4 b n nn s).2.2.2.2.2 := by unfold tuV; rw [sel7_4]
theorem tuV_5a {nn : Nat} (h : (tu5 b n nn s).2.2.1 = 2) : tuV b n nn s 5 = (tu5 b n nn s).2.2.2.2.2 := by unfold tuV; rw [sel7_5, if_pos h]
theorem tuV_5b {nn : Nat} (h : ¬ (tu5 b n nn s).2.2.1 = 2) : tuV b n nn s 5 = 0 := by unfold tuV; rw [sel7_5, if_neg h]
theorem tuV_6a {nn : Nat} (h : (tu5 b n nn s).2.2.1 = 2) (h2 : (tu6 b n nn s).2.2.1 = 2) : tuV b n nn s 6 = (tu6 b n nn s).2.2.2.2.2 := by unfold tuV; rw [sel7_6, if_pos ⟨h, h2⟩]
theorem tuV_6b {nn : Nat} (h : ¬ ((tu5 b n nn s).2.2.1 = 2 ∧ (tu6 b n nn s).2.2.1 = 2)) : tuV b n nn s 6 = 7 := by unfold tuV; rw [sel7_6, if_neg h]
theorem lk1_c {nn : Nat} : lk1 b n nn s = rNod b n nn (-1) (acc b n s) := rfl
theorem lk2_c {nn : Nat} : lk2 b n nn s = rNod b n nn (nI (acc b n s).2.2.2.2.2) (lk1 b n nn s) := rfl
theorem lk3_c {nn : Nat} : lk3 b n nn s = rNum b n 1 99 (lk2 b n nn s) := rfl
theorem lk4_c {nn : Nat} : lk4 b n nn s = rNum b n 1 99 (lk3 b n nn s) := rfl
theorem lk5_c {nn : Nat} : lk5 b n nn s = rOpt b n 0 15 (lk4 b n nn s) := rfl
theorem lk6_c {nn : Nat} : lk6 b n nn s = rSem b n (lk5 b n nn s) := rfl
theorem tu4_c {nn : Nat} : tu4 b n nn s = rNum b n 0 7 (lk3 b n nn s) := rfl
theorem tu5_c {nn : Nat} : tu5 b n nn s = rNum b n 0 (lk3 b n nn s).2.2.2.2.2 (tu4 b n nn s) := rfl
theorem tu6_c {nn : Nat} : tu6 b n nn s = rOpt b n 0 15 (tu5 b n nn s) := rfl
theorem tu8_c {nn : Nat} : tu8 b n nn s = rSem b n (tu7 b n nn s) := rfl
set_option maxHeartbeats 2000000 in
theorem c_link (hN : 2000 ≤ N) (h : CSt b n s I) (h0 : s.1 = 0) (hD : DrC ν I) (hn : WfN ν) (hl : ν.ln < 16) : ∃ I', mX5_readLink N (nI ν.ln) I = some I' ∧ CSt b n (lk6 b n ν.nn s) I' ∧ ((lk6 b n ν.nn s).1 = 0 → DrC (addL ν (lkV b n ν.nn s)) I') ∧ ∀ c, c < 15 ∨ 28 < c → I' c = I c := by
  have hnn := hn.2.1
  obtain ⟨l, hll⟩ : ∃ l, l = ν.ln := ⟨_, rfl⟩
  rw [← hll] at hl ⊢
  obtain ⟨I2, e2, s2, f2⟩ := c_adv hN h h0
  have n2 : I2 15 0 = nI ν.nn := by rw [f2 15 (by decide)]; exact hD.1
  obtain ⟨r4, I5, e5, s5, v5, f5⟩ := c_nod (nn := ν.nn) (x := -1) (a2 := I2 15 0) (a3 := -1) hN s2 (fun _ => ⟨n2, rfl⟩) (by omega)
  obtain ⟨A5, hA5⟩ : ∃ A5, A5 = upd2 I5 16 l r4 := ⟨_, rfl⟩
  have s5' : CSt b n (lk1 b n ν.nn s) A5 := by rw [hA5]; rw [lk1_c]; exact s5.u (by decide) (by decide)
  obtain ⟨r8, I9, e9, s9, v9, f9⟩ := c_nod (nn := ν.nn) (x := nI (acc b n s).2.2.2.2.2) (a2 := A5 15 0) (a3 := A5 16 l) hN s5' (fun q => ⟨by rw [hA5, u2_c (by decide), f5 15 (by decide), n2], by rw [hA5, u2_at]; exact v5 (by rw [← lk1_c]; exact q)⟩) (by omega)
  obtain ⟨A9, hA9⟩ : ∃ A9, A9 = upd2 I9 17 l r8 := ⟨_, rfl⟩
  have s9' : CSt b n (lk2 b n ν.nn s) A9 := by rw [hA9]; rw [lk2_c]; exact s9.u (by decide) (by decide)
  obtain ⟨r11, I12, e12, s12, v12, f12⟩ := c_num (lo := 1) (hi := 99) (a2 := 1) (a3 := 99) hN s9' (fun _ => ⟨rfl, rfl⟩) (by omega) (by omega)
  obtain ⟨A12, hA12⟩ : ∃ A12, A12 = upd2 I12 18 l r11 := ⟨_, rfl⟩
  have s12' : CSt b n (lk3 b n ν.nn s) A12 := by rw [hA12]; rw [lk3_c]; exact s12.u (by decide) (by decide)
  obtain ⟨r14, I15, e15, s15, v15, f15⟩ := c_num (lo := 1) (hi := 99) (a2 := 1) (a3 := 99) hN s12' (fun _ => ⟨rfl, rfl⟩) (by omega) (by omega)
  obtain ⟨A15, hA15⟩ : ∃ A15, A15 = upd2 I15 19 l r14 := ⟨_, rfl⟩
  have s15' : CSt b n (lk4 b n ν.nn s) A15 := by rw [hA15]; rw [lk4_c]; exact s15.u (by decide) (by decide)
  have tail : ∀ x17 I18, CSt b n (lk5 b n ν.nn s) I18 → ((lk5 b n ν.nn s).1 = 0 → x17 = nI (lkV b n ν.nn s 4)) → (∀ c, c ≠ 28 → I18 c = A15 c) → ∃ I', Option.bind (mX5_semicolon N (upd2 I18 20 l x17)) (fun I23 => some (upd2 I23 15 1 (nI l + 1))) = some I' ∧ CSt b n (lk6 b n ν.nn s) I' ∧ ((lk6 b n ν.nn s).1 = 0 → DrC (addL ν (lkV b n ν.nn s)) I') ∧ ∀ c, c < 15 ∨ 28 < c → I' c = I c := by
    intro x17 I18 s18 v18 f18
    obtain ⟨I23, e23, s23, f23⟩ := c_sem hN (s18.u (c := 20) (j := l) (v := x17) (by decide) (by decide))
    refine ⟨upd2 I23 15 1 (nI (l + 1)), by rw [e23, ob_some, nI_1], by rw [lk6_c]; exact s23.u (by decide) (by decide), ?_, ?_⟩
    · intro q
      have q5 : (lk5 b n ν.nn s).1 = 0 := rSem_0 (by rw [← lk6_c]; exact q)
      have q4 : (lk4 b n ν.nn s).1 = 0 := rOpt_0 (by rw [← lk5_c]; exact q5)
      have q3 : (lk3 b n ν.nn s).1 = 0 := (rNum_0 (by rw [← lk4_c]; exact q4)).1
      have q2 : (lk2 b n ν.nn s).1 = 0 := (rNum_0 (by rw [← lk3_c]; exact q3)).1
      have q1 : (lk1 b n ν.nn s).1 = 0 := (rNod_0 (by rw [← lk2_c]; exact q2)).1
      have key : ∀ c, c ≠ 28 → I23 c = upd2 (upd2 (upd2 (upd2 (upd2 I 16 l r4) 17 l r8) 18 l r11) 19 l r14) 20 l x17 c := by
        intro c hc
        rw [f23 c hc]
        apply u2_r
        rw [f18 c hc, hA15]
        apply u2_r
        rw [f15 c hc, hA12]
        apply u2_r
        rw [f12 c hc, hA9]
        apply u2_r
        rw [f9 c hc, hA5]
        apply u2_r
        rw [f5 c hc, f2 c hc]
      have k15 : I23 15 = I 15 := by rw [key 15 (by decide), u2_c (by decide), u2_c (by decide), u2_c (by decide), u2_c (by decide), u2_c (by decide)]
      refine ⟨?_, ?_, ?_, fun l' hl' j hj => ?_, fun t ht j hj => ?_⟩
      · rw [u2_ne (by omega), k15]; exact hD.1
      · show _ = nI (ν.ln + 1)
        rw [u2_at, hll]
      · rw [u2_ne (by omega), k15]; exact hD.2.2.1
      · have hl2 : l' < ν.ln + 1 := hl'
        show _ = nI (if l' = ν.ln then lkV b n ν.nn s j else ν.L l' j)
        rw [u2_c (by omega), key _ (by omega)]
        by_cases e : l' = ν.ln
        · rw [if_pos e, e, ← hll]
          have hj5 : j = 0 ∨ j = 1 ∨ j = 2 ∨ j = 3 ∨ j = 4 := by omega
          rcases hj5 with rfl | rfl | rfl | rfl | rfl
          · rw [u2_ne (by omega), u2_ne (by omega), u2_ne (by omega), u2_ne (by omega), u2_at]; rw [lkV_0]; exact v5 (by rw [← lk1_c]; exact q1)
          · rw [u2_ne (by omega), u2_ne (by omega), u2_ne (by omega), u2_at]; rw [lkV_1]; exact v9 (by rw [← lk2_c]; exact q2)
          · rw [u2_ne (by omega), u2_ne (by omega), u2_at]; rw [lkV_2]; exact v12 (by rw [← lk3_c]; exact q3)
          · rw [u2_ne (by omega), u2_at]; rw [lkV_3]; exact v15 (by rw [← lk4_c]; exact q4)
          · rw [u2_at]; exact v18 q5
        · rw [if_neg e, u2_ne (by omega), u2_ne (by omega), u2_ne (by omega), u2_ne (by omega), u2_ne (by omega)]
          exact hD.2.2.2.1 l' (by omega) j hj
      · rw [u2_c (by omega), key _ (by omega), u2_ne (by omega), u2_ne (by omega), u2_ne (by omega), u2_ne (by omega), u2_ne (by omega)]
        exact hD.2.2.2.2 t ht j hj
    · intro c hc
      rw [u2_c (by omega), f23 c (by omega), u2_c (by omega), f18 c (by omega), hA15, u2_c (by omega), f15 c (by omega), hA12, u2_c (by omega), f12 c (by omega), hA9, u2_c (by omega), f9 c (by omega), hA5, u2_c (by omega), f5 c (by omega), f2 c (by omega)]
  unfold mX5_readLink
  rw [if_pos (show nI l < (16 : Int32) from nI_lt (b := 16) hl (by omega)), e2, ob_some, e5, ob_some]
  dsimp only
  rw [ck_n hl (by decide), nI_clamp (by omega), ← hA5, e9, ob_some]
  dsimp only
  rw [← hA9, e12, ob_some]
  dsimp only
  rw [← hA12, e15, ob_some]
  dsimp only
  rw [← hA15]
  by_cases hk : (lk4 b n ν.nn s).2.2.1 = 2
  · obtain ⟨r20, I21, e21, s21, v21, f21⟩ := c_num (lo := 0) (hi := 15) (a2 := 0) (a3 := 15) hN s15' (fun _ => ⟨rfl, rfl⟩) (by omega) (by omega)
    rw [if_pos ((s15'.k (x := 2) (k := 2) rfl (by omega)).mpr hk), e21, ob_some]
    dsimp only
    rw [ob_some]
    dsimp only
    refine tail r20 I21 (by rw [lk5_c, rOpt_2 hk]; exact s21) (fun q => ?_) f21
    rw [lk5_c, rOpt_2 hk] at q
    rw [v21 q]
    rw [lkV_4a hk]
  · rw [if_neg (fun q => hk ((s15'.k (x := 2) (k := 2) rfl (by omega)).mp q)), ob_some]
    dsimp only
    refine tail 0 A15 (by rw [lk5_c, rOpt_n hk]; exact s15') (fun q => ?_) (fun _ _ => rfl)
    rw [lkV_4b hk]; rfl
end CLines
