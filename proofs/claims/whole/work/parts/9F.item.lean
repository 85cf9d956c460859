/-! what a reader shows: fault, its place, the token; one thing read -/
abbrev RdS : Type := Nat × Nat × Tk
def flg (f : Nat) (s : RdS) : RdS := if s.1 = 0 ∧ f ≠ 0 then (f, s.2.2.2.1, s.2.2) else s
def acc (b : Nat → Nat) (n : Nat) (s : RdS) : RdS := if s.1 = 0 then (0, s.2.1, tkAt b n s.2.2.2.2.1) else s
def pl7 (s : RdS) : Int32 := if s.1 = 0 then -1 else nI s.2.1
def numF (lo hi : Nat) (t : Tk) : Nat := if t.1 = 2 then (if 4 < t.2.2.1 - t.2.1 then 2 else if t.2.2.2 < lo then 2 else if t.2.2.2 ≤ hi then 0 else 2) else 1
def nodF (nn : Nat) (x : Int32) (t : Tk) : Nat := if t.1 = 2 then (if t.2.2.1 - t.2.1 ≤ 4 then (if t.2.2.2 < nn then (if nI t.2.2.2 = x then 4 else 0) else 3) else 2) else 1
def semF (t : Tk) : Nat := if t.1 = 3 then 0 else 1
def rNum (b : Nat → Nat) (n lo hi : Nat) (s : RdS) : RdS := acc b n (flg (numF lo hi s.2.2) s)
def rNod (b : Nat → Nat) (n nn : Nat) (x : Int32) (s : RdS) : RdS := acc b n (flg (nodF nn x s.2.2) s)
def rSem (b : Nat → Nat) (n : Nat) (s : RdS) : RdS := acc b n (flg (semF s.2.2) s)
def CSt (b : Nat → Nat) (n : Nat) (s : RdS) (I : gI) : Prop := TxC b n I ∧ CT n s.2.2 I ∧ I 28 6 = nI s.1 ∧ s.1 ≤ 4 ∧ I 28 7 = pl7 s ∧ ∃ e, s.2.2 = tkAt b n e
def MSt (b : Nat → Nat) (n : Nat) (s : RdS) (I : gI) (J : gJ) : Prop := TxM b n I ∧ MT b n s.2.2 I J ∧ I 310 3 = nI s.1 ∧ s.1 ≤ 4 ∧ I 310 4 = pl7 s ∧ ∃ e, s.2.2 = tkAt b n e
def FrK (I I' : gI) (J J' : gJ) : Prop := (∀ c, c ≠ 310 → I' c = I c) ∧ (∀ j, j < 3 ∨ 11 < j → I' 310 j = I 310 j) ∧ J' 337 = J 337
theorem FrK.rf {I : gI} {J : gJ} : FrK I I J J := ⟨fun _ _ => rfl, fun _ _ => rfl, rfl⟩
theorem FrK.tr {I I' I'' : gI} {J J' J'' : gJ} (h : FrK I I' J J') (h2 : FrK I' I'' J' J'') : FrK I I'' J J'' := ⟨fun c hc => (h2.1 c hc).trans (h.1 c hc), fun j hj => (h2.2.1 j hj).trans (h.2.1 j hj), h2.2.2.trans h.2.2⟩
section Items
variable {b : Nat → Nat} {n N : Nat} {I : gI} {J : gJ} {s : RdS}
theorem tkAt_v {e : Nat} : (tkAt b n e).2.2.2 ≤ 10000 := by
  unfold tkAt
  by_cases h1 : n ≤ rn blk b n e
  · rw [if_pos h1]; exact Nat.zero_le _
  · rw [if_neg h1]
    by_cases h2 : ltr (b (rn blk b n e)) = true
    · rw [if_pos h2]; exact Nat.zero_le _
    · rw [if_neg h2]
      by_cases h3 : dgt (b (rn blk b n e)) = true
      · rw [if_pos h3]
        refine vl_bd (by split <;> omega) (fun j hj => rn_mem (n - rn blk b n e) (rn blk b n e) (Nat.le_refl _) _ (by omega) ?_)
        by_cases h4 : rn dgt b n (rn blk b n e) - rn blk b n e ≤ 4
        · rw [if_pos h4] at hj; omega
        · rw [if_neg h4] at hj; omega
      · rw [if_neg h3]; exact Nat.zero_le _
theorem tkAt_f {e : Nat} : e ≤ (tkAt b n e).2.1 ∧ ((tkAt b n e).1 ≠ 0 → (tkAt b n e).2.1 < (tkAt b n e).2.2.1 ∧ (tkAt b n e).2.1 < n) := by
  have h0 := rn_ge (p := blk) (b := b) (n := n) _ e (Nat.le_refl _)
  unfold tkAt
  by_cases h1 : n ≤ rn blk b n e
  · rw [if_pos h1]; exact ⟨h0, fun h => absurd rfl h⟩
  · rw [if_neg h1]
    by_cases h2 : ltr (b (rn blk b n e)) = true
    · rw [if_pos h2]
      refine ⟨h0, fun _ => ⟨?_, Nat.lt_of_not_le h1⟩⟩
      show rn blk b n e < rn ltr b n (rn blk b n e)
      rw [rn_on (by omega) h2]
      have := rn_ge (p := ltr) (b := b) (n := n) _ (rn blk b n e + 1) (Nat.le_refl _)
      omega
    · rw [if_neg h2]
      by_cases h3 : dgt (b (rn blk b n e)) = true
      · rw [if_pos h3]
        refine ⟨h0, fun _ => ⟨?_, Nat.lt_of_not_le h1⟩⟩
        show rn blk b n e < rn dgt b n (rn blk b n e)
        rw [rn_on (by omega) h3]
        have := rn_ge (p := dgt) (b := b) (n := n) _ (rn blk b n e + 1) (Nat.le_refl _)
        omega
      · rw [if_neg h3]
        exact ⟨h0, fun _ => ⟨Nat.lt_succ_self _, Nat.lt_of_not_le h1⟩⟩
theorem tkAt_l {e : Nat} : (tkAt b n e).1 = 1 → ∀ j, (tkAt b n e).2.1 ≤ j → j < (tkAt b n e).2.2.1 → ltr (b j) = true := by
  unfold tkAt
  by_cases h1 : n ≤ rn blk b n e
  · rw [if_pos h1]
    exact fun h => absurd (show (0 : Nat) = 1 from h) (by decide)
  · rw [if_neg h1]
    by_cases h2 : ltr (b (rn blk b n e)) = true
    · rw [if_pos h2]
      exact fun _ j h3 h4 => rn_mem (n - rn blk b n e) (rn blk b n e) (Nat.le_refl _) j h3 h4
    · rw [if_neg h2]
      by_cases h3 : dgt (b (rn blk b n e)) = true
      · rw [if_pos h3]
        exact fun h => absurd (show (2 : Nat) = 1 from h) (by decide)
      · rw [if_neg h3]
        intro h
        have h' : (if b (rn blk b n e) = 59 then 3 else 4) = 1 := h
        by_cases h5 : b (rn blk b n e) = 59
        · rw [if_pos h5] at h'; omega
        · rw [if_neg h5] at h'; omega
/-! in the class -/
theorem CSt.v (h : CSt b n s I) : s.2.2.2.2.2 ≤ 10000 := by
  obtain ⟨e, he⟩ := h.2.2.2.2.2
  rw [he]; exact tkAt_v
theorem CT.eq {t : Tk} {I' : gI} (h : CT n t I) (e : ∀ j, j < 6 → I' 28 j = I 28 j) : CT n t I' := ⟨by rw [e 2 (by omega)]; exact h.1, by rw [e 3 (by omega)]; exact h.2.1, by rw [e 4 (by omega)]; exact h.2.2.1, fun a c => by rw [e 5 (by omega)]; exact h.2.2.2.1 a c, h.2.2.2.2⟩
theorem CSt.u {c j : Nat} {v : Int32} (h : CSt b n s I) (h1 : c ≠ 1) (h2 : c ≠ 28) : CSt b n s (upd2 I c j v) := by
  have e : upd2 I c j v 28 = I 28 := u2_c (fun q => h2 q.symm)
  have e1 : upd2 I c j v 1 = I 1 := u2_c (fun q => h1 q.symm)
  exact ⟨⟨h.1.1, by rw [e]; exact h.1.2.1, by rw [e1]; exact h.1.2.2⟩, h.2.1.eq (fun j _ => by rw [e]), by rw [e]; exact h.2.2.1, h.2.2.2.1, by rw [e]; exact h.2.2.2.2.1, h.2.2.2.2.2⟩
def flI (f : Nat) (I : gI) : gI := if I 28 6 = 0 ∧ f ≠ 0 then upd2 (upd2 I 28 6 (nI f)) 28 7 (I 28 3) else I
theorem CSt.z (h : CSt b n s I) : I 28 6 = 0 ↔ s.1 = 0 := by rw [h.2.2.1, nI_eq0 (by have := h.2.2.2.1; omega)]
theorem c_flag {f : Nat} {x : Int32} (hx : x = nI f) (hf : f ≠ 0) : mX5_flag x I = some (flI f I) := by
  unfold mX5_flag flI
  by_cases h : I 28 6 = 0
  · rw [if_pos h, if_pos ⟨h, hf⟩, u2_ne (show ¬ (28 = 28 ∧ 3 = 6) by omega), hx]
  · rw [if_neg h, if_neg (fun q => h q.1)]
theorem flI_0 : flI 0 I = I := if_neg (fun q => q.2 rfl)
theorem flI_b {f : Nat} (h : ¬ I 28 6 = 0) : flI f I = I := if_neg (fun q => h q.1)
theorem flI_c {f c : Nat} (hc : c ≠ 28) : flI f I c = I c := by
  unfold flI
  split
  · rw [u2_c hc, u2_c hc]
  · rfl
theorem flI_5 {f : Nat} : flI f I 28 5 = I 28 5 := by
  unfold flI
  split
  · rw [u2_ne (by omega), u2_ne (by omega)]
  · rfl
theorem c_flI {f : Nat} (h : CSt b n s I) (hf : f ≤ 4) : CSt b n (flg f s) (flI f I) := by
  unfold flI flg
  by_cases h0 : s.1 = 0 ∧ f ≠ 0
  · rw [if_pos h0, if_pos ⟨h.z.mpr h0.1, h0.2⟩]
    refine ⟨(h.1.u (by decide)).u (by decide), h.2.1.eq (fun j hj => by rw [u2_ne (by omega), u2_ne (by omega)]), ?_, hf, ?_, h.2.2.2.2.2⟩
    · rw [u2_ne (by omega), u2_at]
    · show _ = (if f = 0 then _ else _)
      rw [u2_at, if_neg h0.2, h.2.1.2.1]
  · rw [if_neg h0, if_neg (fun q => h0 ⟨h.z.mp q.1, q.2⟩)]
    exact h
theorem c_adv (hN : 2000 ≤ N) (h : CSt b n s I) (h0 : s.1 = 0) : ∃ I', mX5_next N I = some I' ∧ CSt b n (acc b n s) I' ∧ ∀ c, c ≠ 28 → I' c = I c := by
  obtain ⟨I', e1, e2, e3, e4, e5⟩ := c_next hN h.1 h.2.1.2.2.2.2.2.2 h.2.1.2.2.1
  refine ⟨I', e1, ?_, e4⟩
  unfold acc
  rw [if_pos h0]
  refine ⟨e3, e2, ?_, Nat.zero_le _, ?_, ⟨_, rfl⟩⟩
  · rw [e5 6 (by omega) (by omega) (by omega) (by omega), h.2.2.1, h0]
  · rw [e5 7 (by omega) (by omega) (by omega) (by omega), h.2.2.2.2.1]
    unfold pl7
    rw [if_pos h0, if_pos rfl]
theorem acc_b (h0 : ¬ s.1 = 0) : acc b n s = s := if_neg h0
theorem c_acc {a : Int32} (hN : 2000 ≤ N) (h : CSt b n s I) : ∃ r I', mX5_accept N a I = some (r, I') ∧ CSt b n (acc b n s) I' ∧ (s.1 = 0 → r = I 28 5) ∧ ∀ c, c ≠ 28 → I' c = I c := by
  unfold mX5_accept
  by_cases h0 : s.1 = 0
  · obtain ⟨I', e1, e2, e3⟩ := c_adv hN h h0
    refine ⟨I 28 5, I', ?_, e2, fun _ => rfl, e3⟩
    rw [if_pos (h.z.mpr h0), e1, ob_some]
  · refine ⟨a, I, ?_, ?_, fun q => absurd q h0, fun _ _ => rfl⟩
    · rw [if_neg (fun q => h0 (h.z.mp q))]
    · rw [acc_b h0]; exact h
theorem flg_0 {f : Nat} (h : (flg f s).1 = 0) : s.1 = 0 ∧ f = 0 ∧ flg f s = s := by
  unfold flg at h ⊢
  by_cases h0 : s.1 = 0 ∧ f ≠ 0
  · rw [if_pos h0] at h
    exact absurd h h0.2
  · rw [if_neg h0] at h ⊢
    exact ⟨h, Classical.byContradiction fun q => h0 ⟨h, q⟩, rfl⟩
theorem acc_0 (h : (acc b n s).1 = 0) : s.1 = 0 := by
  unfold acc at h
  by_cases h0 : s.1 = 0
  · exact h0
  · rw [if_neg h0] at h; exact h
theorem numF_le {lo hi : Nat} {t : Tk} : numF lo hi t ≤ 4 := by unfold numF; (repeat' split) <;> omega
theorem nodF_le {nn : Nat} {x : Int32} {t : Tk} : nodF nn x t ≤ 4 := by unfold nodF; (repeat' split) <;> omega
theorem semF_le {t : Tk} : semF t ≤ 4 := by unfold semF; (repeat' split) <;> omega
theorem numF_0 {lo hi : Nat} {t : Tk} (h : numF lo hi t = 0) : t.1 = 2 ∧ t.2.2.1 - t.2.1 ≤ 4 ∧ lo ≤ t.2.2.2 ∧ t.2.2.2 ≤ hi := by
  unfold numF at h
  by_cases h1 : t.1 = 2
  · rw [if_pos h1] at h
    by_cases h2 : 4 < t.2.2.1 - t.2.1
    · rw [if_pos h2] at h; omega
    · rw [if_neg h2] at h
      by_cases h3 : t.2.2.2 < lo
      · rw [if_pos h3] at h; omega
      · rw [if_neg h3] at h
        by_cases h4 : t.2.2.2 ≤ hi
        · exact ⟨h1, by omega, by omega, h4⟩
        · rw [if_neg h4] at h; omega
  · rw [if_neg h1] at h; omega
theorem nodF_0 {nn : Nat} {x : Int32} {t : Tk} (h : nodF nn x t = 0) : t.1 = 2 ∧ t.2.2.1 - t.2.1 ≤ 4 ∧ t.2.2.2 < nn ∧ nI t.2.2.2 ≠ x := by
  unfold nodF at h
  by_cases h1 : t.1 = 2
  · rw [if_pos h1] at h
    by_cases h2 : t.2.2.1 - t.2.1 ≤ 4
    · rw [if_pos h2] at h
      by_cases h3 : t.2.2.2 < nn
      · rw [if_pos h3] at h
        by_cases h4 : nI t.2.2.2 = x
        · rw [if_pos h4] at h; omega
        · exact ⟨h1, h2, h3, h4⟩
      · rw [if_neg h3] at h; omega
    · rw [if_neg h2] at h; omega
  · rw [if_neg h1] at h; omega
theorem rNum_0 {lo hi : Nat} (h : (rNum b n lo hi s).1 = 0) : s.1 = 0 ∧ s.2.2.1 = 2 ∧ s.2.2.2.2.1 - s.2.2.2.1 ≤ 4 ∧ lo ≤ s.2.2.2.2.2 ∧ s.2.2.2.2.2 ≤ hi := by
  have h1 := flg_0 (acc_0 h)
  exact ⟨h1.1, numF_0 h1.2.1⟩
theorem rNod_0 {nn : Nat} {x : Int32} (h : (rNod b n nn x s).1 = 0) : s.1 = 0 ∧ s.2.2.1 = 2 ∧ s.2.2.2.2.1 - s.2.2.2.1 ≤ 4 ∧ s.2.2.2.2.2 < nn ∧ nI s.2.2.2.2.2 ≠ x := by
  have h1 := flg_0 (acc_0 h)
  exact ⟨h1.1, nodF_0 h1.2.1⟩
theorem rSem_0 (h : (rSem b n s).1 = 0) : s.1 = 0 := (flg_0 (acc_0 h)).1
theorem CSt.k (h : CSt b n s I) {k : Nat} {x : Int32} (hx : x = nI k) (hk : k ≤ 4) : I 28 2 = x ↔ s.2.2.1 = k := by
  have := h.2.1.2.2.2.2.1
  rw [h.2.1.1, hx, nI_eq (by omega) (by omega)]
theorem CSt.len (h : CSt b n s I) : I 28 4 - I 28 3 = nI (s.2.2.2.2.1 - s.2.2.2.1) ∧ s.2.2.2.2.1 - s.2.2.2.1 ≤ 700 := by
  have h1 := h.2.1.2.2.2.2.2
  have h2 := h.1.1
  exact ⟨by rw [h.2.1.2.2.1, h.2.1.2.1, nI_sub h1.1], by omega⟩
theorem c_num {lo hi : Nat} {a2 a3 : Int32} (hN : 2000 ≤ N) (h : CSt b n s I) (ha : s.1 = 0 → a2 = nI lo ∧ a3 = nI hi) (hl : lo ≤ 10000) (hh : hi ≤ 10000) : ∃ r I', mX5_number N a2 a3 I = some (r, I') ∧ CSt b n (rNum b n lo hi s) I' ∧ ((rNum b n lo hi s).1 = 0 → r = nI s.2.2.2.2.2) ∧ ∀ c, c ≠ 28 → I' c = I c := by
  have hv := h.v
  have hL := h.len
  have e4 : (if (I 28 2) = 2 then (if 4 < ((I 28 4) - (I 28 3)) then (Option.bind (mX5_flag 2 I) (fun I4 => some I4)) else (if (I 28 5) < a2 then (Option.bind (mX5_flag 2 I) (fun I7 => some I7)) else (if (I 28 5) ≤ a3 then (some I) else (Option.bind (mX5_flag 2 I) (fun I10 => some I10))))) else (Option.bind (mX5_flag 1 I) (fun I12 => some I12)) : Option (gI)) = some (flI (numF lo hi s.2.2) I) := by
    rw [c_flag (x := 2) (f := 2) rfl (by decide), c_flag (x := 1) (f := 1) rfl (by decide), ob_some, ob_some]
    by_cases h0 : s.1 = 0
    · obtain ⟨rfl, rfl⟩ := ha h0
      unfold numF
      by_cases h1 : s.2.2.1 = 2
      · rw [if_pos ((h.k (x := 2) (k := 2) rfl (by omega)).mpr h1), if_pos h1, hL.1]
        by_cases h2 : 4 < s.2.2.2.2.1 - s.2.2.2.1
        · rw [if_pos (show (4 : Int32) < nI _ from nI_lt (a := 4) h2 (by omega)), if_pos h2]
        · rw [if_neg (show ¬ (4 : Int32) < nI _ from nI_nlt (a := 4) (by omega) (by omega)), if_neg h2, h.2.1.2.2.2.1 h1 (by omega)]
          by_cases h3 : s.2.2.2.2.2 < lo
          · rw [if_pos (nI_lt h3 (by omega)), if_pos h3]
          · rw [if_neg (nI_nlt (by omega) (by omega)), if_neg h3]
            by_cases h4 : s.2.2.2.2.2 ≤ hi
            · rw [if_pos (nI_le h4 (by omega)), if_pos h4, flI_0]
            · rw [if_neg (nI_ge (by omega) (by omega)), if_neg h4]
      · rw [if_neg (fun q => h1 ((h.k (x := 2) (k := 2) rfl (by omega)).mp q)), if_neg h1]
    · have hb : ¬ I 28 6 = 0 := fun q => h0 (h.z.mp q)
      rw [flI_b hb, flI_b hb, flI_b hb]
      simp only [ite_self]
  obtain ⟨r, I', e5, e6, e7, e8⟩ := c_acc (a := a2) hN (c_flI h (numF_le (lo := lo) (hi := hi) (t := s.2.2)))
  refine ⟨r, I', ?_, e6, fun q => ?_, fun c hc => by rw [e8 c hc, flI_c hc]⟩
  · unfold mX5_number
    rw [e4, ob_some, e5, ob_some]
  · have q2 := rNum_0 q
    rw [e7 (acc_0 q), flI_5, h.2.1.2.2.2.1 q2.2.1 q2.2.2.1]
theorem c_nod {nn : Nat} {x a2 a3 : Int32} (hN : 2000 ≤ N) (h : CSt b n s I) (ha : s.1 = 0 → a2 = nI nn ∧ a3 = x) (hl : nn ≤ 10000) : ∃ r I', mX5_node N a2 a3 I = some (r, I') ∧ CSt b n (rNod b n nn x s) I' ∧ ((rNod b n nn x s).1 = 0 → r = nI s.2.2.2.2.2) ∧ ∀ c, c ≠ 28 → I' c = I c := by
  have hv := h.v
  have hL := h.len
  have e4 : (if (I 28 2) = 2 then (if ((I 28 4) - (I 28 3)) ≤ 4 then (if (I 28 5) < a2 then (if (I 28 5) = a3 then (Option.bind (mX5_flag 4 I) (fun I6 => some I6)) else (some I)) else (Option.bind (mX5_flag 3 I) (fun I8 => some I8))) else (Option.bind (mX5_flag 2 I) (fun I10 => some I10))) else (Option.bind (mX5_flag 1 I) (fun I12 => some I12)) : Option (gI)) = some (flI (nodF nn x s.2.2) I) := by
    rw [c_flag (x := 4) (f := 4) rfl (by decide), c_flag (x := 3) (f := 3) rfl (by decide), c_flag (x := 2) (f := 2) rfl (by decide), c_flag (x := 1) (f := 1) rfl (by decide), ob_some, ob_some, ob_some, ob_some]
    by_cases h0 : s.1 = 0
    · obtain ⟨rfl, rfl⟩ := ha h0
      unfold nodF
      by_cases h1 : s.2.2.1 = 2
      · rw [if_pos ((h.k (x := 2) (k := 2) rfl (by omega)).mpr h1), if_pos h1, hL.1]
        by_cases h2 : s.2.2.2.2.1 - s.2.2.2.1 ≤ 4
        · rw [if_pos (show nI _ ≤ (4 : Int32) from nI_le (b := 4) h2 (by omega)), if_pos h2, h.2.1.2.2.2.1 h1 (by omega)]
          by_cases h3 : s.2.2.2.2.2 < nn
          · rw [if_pos (nI_lt h3 (by omega)), if_pos h3]
            by_cases h4 : nI s.2.2.2.2.2 = a3
            · rw [if_pos h4, if_pos h4]
            · rw [if_neg h4, if_neg h4, flI_0]
          · rw [if_neg (nI_nlt (by omega) (by omega)), if_neg h3]
        · rw [if_neg (show ¬ nI _ ≤ (4 : Int32) from nI_ge (a := 4) (by omega) (by omega)), if_neg h2]
      · rw [if_neg (fun q => h1 ((h.k (x := 2) (k := 2) rfl (by omega)).mp q)), if_neg h1]
    · have hb : ¬ I 28 6 = 0 := fun q => h0 (h.z.mp q)
      rw [flI_b hb, flI_b hb, flI_b hb, flI_b hb, flI_b hb]
      simp only [ite_self]
  obtain ⟨r, I', e5, e6, e7, e8⟩ := c_acc (a := 0) hN (c_flI h (nodF_le (nn := nn) (x := x) (t := s.2.2)))
  refine ⟨r, I', ?_, e6, fun q => ?_, fun c hc => by rw [e8 c hc, flI_c hc]⟩
  · unfold mX5_node
    rw [e4, ob_some, e5, ob_some]
  · have q2 := rNod_0 q
    rw [e7 (acc_0 q), flI_5, h.2.1.2.2.2.1 q2.2.1 q2.2.2.1]
theorem c_sem (hN : 2000 ≤ N) (h : CSt b n s I) : ∃ I', mX5_semicolon N I = some I' ∧ CSt b n (rSem b n s) I' ∧ ∀ c, c ≠ 28 → I' c = I c := by
  have e4 : (if (I 28 2) = 3 then (some I) else (Option.bind (mX5_flag 1 I) (fun I3 => some I3)) : Option (gI)) = some (flI (semF s.2.2) I) := by
    rw [c_flag (x := 1) (f := 1) rfl (by decide), ob_some]
    unfold semF
    by_cases h1 : s.2.2.1 = 3
    · rw [if_pos ((h.k (x := 3) (k := 3) rfl (by omega)).mpr h1), if_pos h1, flI_0]
    · rw [if_neg (fun q => h1 ((h.k (x := 3) (k := 3) rfl (by omega)).mp q)), if_neg h1]
  have hs := c_flI h (semF_le (t := s.2.2))
  unfold mX5_semicolon
  rw [e4, ob_some]
  by_cases h0 : (flg (semF s.2.2) s).1 = 0
  · obtain ⟨I', e1, e2, e3⟩ := c_adv hN hs h0
    refine ⟨I', ?_, e2, fun c hc => by rw [e3 c hc, flI_c hc]⟩
    rw [if_pos (hs.z.mpr h0), e1, ob_some]
  · refine ⟨_, by rw [if_neg (fun q => h0 (hs.z.mp q))], ?_, fun c hc => flI_c hc⟩
    unfold rSem
    rw [acc_b h0]; exact hs
end Items
