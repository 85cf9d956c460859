/-! one thing read, in the reference -/
section MItems
variable {b : Nat → Nat} {n N : Nat} {I : gI} {J : gJ} {s : RdS}
theorem MT.eq {t : Tk} {I' : gI} (h : MT b n t I J) (e : ∀ j, 5 < j → j < 12 → I' 310 j = I 310 j) : MT b n t I' J := ⟨by rw [e 8 (by omega) (by omega)]; exact h.1, by rw [e 9 (by omega) (by omega)]; exact h.2.1, by rw [e 7 (by omega) (by omega)]; exact h.2.2.1, by rw [e 10 (by omega) (by omega)]; exact h.2.2.2.1, fun a => by rw [e 11 (by omega) (by omega)]; exact h.2.2.2.2.1 a, h.2.2.2.2.2⟩
theorem MSt.u {c j : Nat} {v : Int32} (h : MSt b n s I J) (h1 : c ≠ 311) (h2 : c ≠ 310 ∨ 11 < j) : MSt b n s (upd2 I c j v) J := by
  have e : ∀ i, i < 12 → upd2 I c j v 310 i = I 310 i := fun i hi => u2_ne (by omega)
  have e1 : upd2 I c j v 311 = I 311 := u2_c (fun q => h1 q.symm)
  exact ⟨⟨h.1.1, by rw [e 6 (by omega)]; exact h.1.2.1, by rw [e1]; exact h.1.2.2⟩, h.2.1.eq (fun i _ hi => e i hi), by rw [e 3 (by omega)]; exact h.2.2.1, h.2.2.2.1, by rw [e 4 (by omega)]; exact h.2.2.2.2.1, h.2.2.2.2.2⟩
theorem MSt.v (h : MSt b n s I J) : s.2.2.2.2.2 ≤ 10000 := by
  obtain ⟨e, he⟩ := h.2.2.2.2.2
  rw [he]; exact tkAt_v
def wrI (f : Nat) (I : gI) : gI := if I 310 3 = 0 ∧ f ≠ 0 then upd2 (upd2 I 310 3 (nI f)) 310 4 (I 310 9) else I
theorem MSt.z (h : MSt b n s I J) : I 310 3 = 0 ↔ s.1 = 0 := by rw [h.2.2.1, nI_eq0 (by have := h.2.2.2.1; omega)]
theorem m_wrong {f : Nat} {x : Int32} (hx : x = nI f) (hf : f ≠ 0) : mX11_wrong x I = some (wrI f I) := by
  unfold mX11_wrong wrI
  by_cases h : I 310 3 = 0
  · rw [if_pos h, if_pos ⟨h, hf⟩, u2_ne (show ¬ (310 = 310 ∧ 9 = 3) by omega), hx]
  · rw [if_neg h, if_neg (fun q => h q.1)]
theorem wrI_0 : wrI 0 I = I := if_neg (fun q => q.2 rfl)
theorem wrI_b {f : Nat} (h : ¬ I 310 3 = 0) : wrI f I = I := if_neg (fun q => h q.1)
theorem wrI_fr {f : Nat} : FrK I (wrI f I) J J := by
  unfold wrI
  split
  · exact ⟨fun c hc => by rw [u2_c hc, u2_c hc], fun j hj => by rw [u2_ne (by omega), u2_ne (by omega)], rfl⟩
  · exact FrK.rf
theorem wrI_11 {f : Nat} : wrI f I 310 11 = I 310 11 := by
  unfold wrI
  split
  · rw [u2_ne (by omega), u2_ne (by omega)]
  · rfl
theorem m_wrI {f : Nat} (h : MSt b n s I J) (hf : f ≤ 4) : MSt b n (flg f s) (wrI f I) J := by
  unfold wrI flg
  by_cases h0 : s.1 = 0 ∧ f ≠ 0
  · rw [if_pos h0, if_pos ⟨h.z.mpr h0.1, h0.2⟩]
    refine ⟨(h.1.u (by decide)).u (by decide), h.2.1.eq (fun j hj hj2 => by rw [u2_ne (by omega), u2_ne (by omega)]), ?_, hf, ?_, h.2.2.2.2.2⟩
    · rw [u2_ne (by omega), u2_at]
    · show _ = (if f = 0 then _ else _)
      rw [u2_at, if_neg h0.2, h.2.1.2.1]
  · rw [if_neg h0, if_neg (fun q => h0 ⟨h.z.mp q.1, q.2⟩)]
    exact h
theorem m_good1 (h : MSt b n s I J) (h0 : s.1 = 0) : mX11_isGood I = some 1 := by
  unfold mX11_isGood
  rw [if_pos (h.z.mpr h0)]
theorem m_good0 (h : MSt b n s I J) (h0 : ¬ s.1 = 0) : mX11_isGood I = some 0 := by
  unfold mX11_isGood
  rw [if_neg (fun q => h0 (h.z.mp q))]
theorem m_adv (hN : 2000 ≤ N) (h : MSt b n s I J) (h0 : s.1 = 0) : ∃ I' J', mX11_goes N I J = some (I', J') ∧ MSt b n (acc b n s) I' J' ∧ FrK I I' J J' := by
  obtain ⟨I', J', e1, e2, e3, e4, e5, e6⟩ := m_goes (J := J) hN h.1 h.2.1.2.2.2.2.2.2.2.2 h.2.1.2.2.1
  refine ⟨I', J', e1, ?_, e4, fun j hj => e5 j (by omega), e6⟩
  unfold acc
  rw [if_pos h0]
  refine ⟨e3, e2, ?_, Nat.zero_le _, ?_, ⟨_, rfl⟩⟩
  · rw [e5 3 (by omega), h.2.2.1, h0]
  · rw [e5 4 (by omega), h.2.2.2.2.1]
    unfold pl7
    rw [if_pos h0, if_pos rfl]
theorem MSt.k (h : MSt b n s I J) {k : Nat} {x : Int32} (hx : x = nI k) (hk : k ≤ 4) : I 310 8 = x ↔ s.2.2.1 = k := by
  have := h.2.1.2.2.2.2.2.2.1
  rw [h.2.1.1, hx, nI_eq (by omega) (by omega)]
theorem MSt.len (h : MSt b n s I J) : I 310 10 = nI (s.2.2.2.2.1 - s.2.2.2.1) ∧ s.2.2.2.2.1 - s.2.2.2.1 ≤ 700 := by
  have h1 := h.2.1.2.2.2.2.2.2.2
  have h2 := h.1.1
  exact ⟨h.2.1.2.2.2.1, by omega⟩
theorem flg_b {f : Nat} (h0 : ¬ s.1 = 0) : flg f s = s := if_neg (fun q => h0 q.1)
theorem m_num {lo hi : Nat} {a2 a3 : Int32} (hN : 2000 ≤ N) (h : MSt b n s I J) (ha : s.1 = 0 → a2 = nI lo ∧ a3 = nI hi) (hl : lo ≤ 10000) (hh : hi ≤ 10000) : ∃ r I' J', mX11_number N a2 a3 I J = some (r, I', J') ∧ MSt b n (rNum b n lo hi s) I' J' ∧ ((rNum b n lo hi s).1 = 0 → r = nI s.2.2.2.2.2) ∧ FrK I I' J J' := by
  have hv := h.v
  have hL := h.len
  by_cases h0 : s.1 = 0
  · obtain ⟨rfl, rfl⟩ := ha h0
    have e4 : (if (I 310 8) = 2 then (if 4 < (I 310 10) then (Option.bind (mX11_wrong 2 I) (fun I7 => some I7)) else (if (I 310 11) < nI lo then (Option.bind (mX11_wrong 2 I) (fun I10 => some I10)) else (if (I 310 11) ≤ nI hi then (some I) else (Option.bind (mX11_wrong 2 I) (fun I13 => some I13))))) else (Option.bind (mX11_wrong 1 I) (fun I15 => some I15)) : Option (gI)) = some (wrI (numF lo hi s.2.2) I) := by
      rw [m_wrong (x := 2) (f := 2) rfl (by decide), m_wrong (x := 1) (f := 1) rfl (by decide), ob_some, ob_some]
      unfold numF
      by_cases h1 : s.2.2.1 = 2
      · rw [if_pos ((h.k (x := 2) (k := 2) rfl (by omega)).mpr h1), if_pos h1, hL.1]
        by_cases h2 : 4 < s.2.2.2.2.1 - s.2.2.2.1
        · rw [if_pos (show (4 : Int32) < nI _ from nI_lt (a := 4) h2 (by omega)), if_pos h2]
        · rw [if_neg (show ¬ (4 : Int32) < nI _ from nI_nlt (a := 4) (by omega) (by omega)), if_neg h2, h.2.1.2.2.2.2.1 h1]
          by_cases h3 : s.2.2.2.2.2 < lo
          · rw [if_pos (nI_lt h3 (by omega)), if_pos h3]
          · rw [if_neg (nI_nlt (by omega) (by omega)), if_neg h3]
            by_cases h4 : s.2.2.2.2.2 ≤ hi
            · rw [if_pos (nI_le h4 (by omega)), if_pos h4, wrI_0]
            · rw [if_neg (nI_ge (by omega) (by omega)), if_neg h4]
      · rw [if_neg (fun q => h1 ((h.k (x := 2) (k := 2) rfl (by omega)).mp q)), if_neg h1]
    have hs := m_wrI h (numF_le (lo := lo) (hi := hi) (t := s.2.2))
    unfold mX11_number
    rw [m_good1 h h0, ob_some, if_neg (by decide), e4, ob_some]
    by_cases h5 : (flg (numF lo hi s.2.2) s).1 = 0
    · obtain ⟨I', J', e1, e2, e3⟩ := m_adv hN hs h5
      refine ⟨wrI (numF lo hi s.2.2) I 310 11, I', J', ?_, e2, fun q => ?_, wrI_fr.tr e3⟩
      · rw [m_good1 hs h5, ob_some, if_neg (by decide), e1, ob_some]
      · rw [wrI_11]
        exact h.2.1.2.2.2.2.1 (rNum_0 q).2.1
    · refine ⟨wrI (numF lo hi s.2.2) I 310 11, wrI (numF lo hi s.2.2) I, J, ?_, ?_, fun q => absurd (acc_0 q) h5, wrI_fr⟩
      · rw [m_good0 hs h5, ob_some, if_pos rfl]
      · unfold rNum
        rw [acc_b h5]; exact hs
  · refine ⟨0, I, J, ?_, ?_, fun q => absurd (rNum_0 q).1 h0, FrK.rf⟩
    · unfold mX11_number
      rw [m_good0 h h0, ob_some, if_pos rfl]
    · unfold rNum
      rw [flg_b h0, acc_b h0]; exact h
theorem m_nod {nn : Nat} {x a2 : Int32} (hN : 2000 ≤ N) (h : MSt b n s I J) (ha : s.1 = 0 → I 310 16 = nI nn ∧ a2 = x) (hl : nn ≤ 10000) : ∃ r I' J', mX11_nodeBut N a2 I J = some (r, I', J') ∧ MSt b n (rNod b n nn x s) I' J' ∧ ((rNod b n nn x s).1 = 0 → r = nI s.2.2.2.2.2) ∧ FrK I I' J J' := by
  have hv := h.v
  have hL := h.len
  by_cases h0 : s.1 = 0
  · obtain ⟨h16, rfl⟩ := ha h0
    have e4 : (if (I 310 8) = 2 then (if (I 310 10) ≤ 4 then (if (I 310 11) < (I 310 16) then (if (I 310 11) = a2 then (Option.bind (mX11_wrong 4 I) (fun I9 => some I9)) else (some I)) else (Option.bind (mX11_wrong 3 I) (fun I11 => some I11))) else (Option.bind (mX11_wrong 2 I) (fun I13 => some I13))) else (Option.bind (mX11_wrong 1 I) (fun I15 => some I15)) : Option (gI)) = some (wrI (nodF nn a2 s.2.2) I) := by
      rw [m_wrong (x := 4) (f := 4) rfl (by decide), m_wrong (x := 3) (f := 3) rfl (by decide), m_wrong (x := 2) (f := 2) rfl (by decide), m_wrong (x := 1) (f := 1) rfl (by decide), ob_some, ob_some, ob_some, ob_some, h16]
      unfold nodF
      by_cases h1 : s.2.2.1 = 2
      · rw [if_pos ((h.k (x := 2) (k := 2) rfl (by omega)).mpr h1), if_pos h1, hL.1]
        by_cases h2 : s.2.2.2.2.1 - s.2.2.2.1 ≤ 4
        · rw [if_pos (show nI _ ≤ (4 : Int32) from nI_le (b := 4) h2 (by omega)), if_pos h2, h.2.1.2.2.2.2.1 h1]
          by_cases h3 : s.2.2.2.2.2 < nn
          · rw [if_pos (nI_lt h3 (by omega)), if_pos h3]
            by_cases h4 : nI s.2.2.2.2.2 = a2
            · rw [if_pos h4, if_pos h4]
            · rw [if_neg h4, if_neg h4, wrI_0]
          · rw [if_neg (nI_nlt (by omega) (by omega)), if_neg h3]
        · rw [if_neg (show ¬ nI _ ≤ (4 : Int32) from nI_ge (a := 4) (by omega) (by omega)), if_neg h2]
      · rw [if_neg (fun q => h1 ((h.k (x := 2) (k := 2) rfl (by omega)).mp q)), if_neg h1]
    have hs := m_wrI h (nodF_le (nn := nn) (x := a2) (t := s.2.2))
    unfold mX11_nodeBut
    rw [m_good1 h h0, ob_some, if_neg (by decide), e4, ob_some]
    by_cases h5 : (flg (nodF nn a2 s.2.2) s).1 = 0
    · obtain ⟨I', J', e1, e2, e3⟩ := m_adv hN hs h5
      refine ⟨wrI (nodF nn a2 s.2.2) I 310 11, I', J', ?_, e2, fun q => ?_, wrI_fr.tr e3⟩
      · rw [m_good1 hs h5, ob_some, if_neg (by decide), e1, ob_some]
      · rw [wrI_11]
        exact h.2.1.2.2.2.2.1 (rNod_0 q).2.1
    · refine ⟨wrI (nodF nn a2 s.2.2) I 310 11, wrI (nodF nn a2 s.2.2) I, J, ?_, ?_, fun q => absurd (acc_0 q) h5, wrI_fr⟩
      · rw [m_good0 hs h5, ob_some, if_pos rfl]
      · unfold rNod
        rw [acc_b h5]; exact hs
  · refine ⟨0, I, J, ?_, ?_, fun q => absurd (rNod_0 q).1 h0, FrK.rf⟩
    · unfold mX11_nodeBut
      rw [m_good0 h h0, ob_some, if_pos rfl]
    · unfold rNod
      rw [flg_b h0, acc_b h0]; exact h
/-- the sign at a line's end, as the reference asks for it -/
theorem m_sem (hN : 2000 ≤ N) (h : MSt b n s I J) : ∃ x I' J', (if (I 310 8) = 3 then (some 1) else (some 0) : Option (Int32)) = some x ∧ mX11_need N x I J = some (I', J') ∧ MSt b n (rSem b n s) I' J' ∧ FrK I I' J J' := by
  by_cases h0 : s.1 = 0
  · by_cases h1 : s.2.2.1 = 3
    · obtain ⟨I', J', e1, e2, e3⟩ := m_adv hN h h0
      refine ⟨1, I', J', by rw [if_pos ((h.k (x := 3) (k := 3) rfl (by omega)).mpr h1)], ?_, ?_, e3⟩
      · unfold mX11_need
        rw [m_good1 h h0, ob_some, if_neg (by decide), if_neg (by decide), e1, ob_some]
      · unfold rSem semF flg
        rw [if_pos h1, if_neg (fun q => q.2 rfl)]
        exact e2
    · refine ⟨0, wrI 1 I, J, by rw [if_neg (fun q => h1 ((h.k (x := 3) (k := 3) rfl (by omega)).mp q))], ?_, ?_, wrI_fr⟩
      · unfold mX11_need
        rw [m_good1 h h0, ob_some, if_neg (by decide), if_pos rfl, m_wrong (x := 1) (f := 1) rfl (by decide), ob_some]
      · have hs := m_wrI h (f := 1) (by omega)
        have h5 : ¬ (flg 1 s).1 = 0 := fun q => absurd (flg_0 q).2.1 (by decide)
        unfold rSem semF
        rw [if_neg h1, acc_b h5]
        exact hs
  · have e : ∀ x, mX11_need N x I J = some (I, J) := fun x => by
      unfold mX11_need
      rw [m_good0 h h0, ob_some, if_pos rfl]
    have hs : MSt b n (rSem b n s) I J := by
      unfold rSem
      rw [flg_b h0, acc_b h0]; exact h
    by_cases h1 : I 310 8 = 3
    · exact ⟨1, I, J, by rw [if_pos h1], e _, hs, FrK.rf⟩
    · exact ⟨0, I, J, by rw [if_neg h1], e _, hs, FrK.rf⟩
end MItems
