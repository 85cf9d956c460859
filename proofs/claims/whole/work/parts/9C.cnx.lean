/-! the class's next token -/
theorem sb_d97 : ∀ x, x < 256 → dgt x = true → sb x < 97 := by decide +kernel
section CNx
variable {b : Nat → Nat} {n N : Nat} {I : gI}
set_option maxHeartbeats 1000000 in
theorem c_next (hN : 2000 ≤ N) {e : Nat} (hT : TxC b n I) (he : e ≤ n) (h4 : I 28 4 = nI e) : ∃ I', mX5_next N I = some I' ∧ CT n (tkAt b n e) I' ∧ TxC b n I' ∧ (∀ c, c ≠ 28 → I' c = I c) ∧ (∀ j, j ≠ 2 → j ≠ 3 → j ≠ 4 → j ≠ 5 → I' 28 j = I 28 j) := by
  have hn7 := hT.1
  obtain ⟨st, hst⟩ : ∃ st, st = rn blk b n e := ⟨_, rfl⟩
  have hst1 : st ≤ n := by rw [hst]; exact rn_le _ e (Nat.le_refl _) he
  have e8 := c_nx8 (b := b) (n := n) n e N (upd2 I 28 3 (I 28 4)) (by omega) (by omega) he (hT.u (by decide)) (by rw [u2_at]; exact h4)
  rw [← hst] at e8
  obtain ⟨B, hB⟩ : ∃ B, B = upd2 (upd2 I 28 3 (I 28 4)) 28 3 (nI st) := ⟨_, rfl⟩
  rw [← hB] at e8
  obtain ⟨A, hA⟩ : ∃ A, A = upd2 B 28 4 (B 28 3) := ⟨_, rfl⟩
  have b3 : B 28 3 = nI st := by rw [hB, u2_at]
  have a3 : A 28 3 = nI st := by rw [hA, u2_ne (by omega), b3]
  have a4 : A 28 4 = nI st := by rw [hA, u2_at, b3]
  have hTA : TxC b n A := by rw [hA, hB]; exact ((hT.u (by decide)).u (by decide)).u (by decide)
  have aC : ∀ c, c ≠ 28 → A c = I c := fun c hc => by rw [hA, u2_c hc, hB, u2_c hc, u2_c hc]
  have aJ : ∀ j, j ≠ 3 → j ≠ 4 → A 28 j = I 28 j := fun j h3 h4 => by rw [hA, u2_ne (by omega), hB, u2_ne (by omega), u2_ne (by omega)]
  unfold mX5_next
  rw [e8, ob_some, ← hA, a3, hTA.2.1]
  by_cases hlt : st < n
  · obtain ⟨b1, b2⟩ := hTA.2.2 st hlt
    rw [if_pos (nI_lt hlt (by omega)), ck_n (by omega) (by decide), nI_clamp (by omega), b2, nm_n]
    have one : ∀ k : Nat, k = 3 ∨ k = 4 → tkAt b n e = (k, st, st + 1, 0) → ∃ I', some (upd2 (upd2 A 28 2 (nI k)) 28 4 ((upd2 A 28 2 (nI k)) 28 3 + 1)) = some I' ∧ CT n (tkAt b n e) I' ∧ TxC b n I' ∧ (∀ c, c ≠ 28 → I' c = I c) ∧ (∀ j, j ≠ 2 → j ≠ 3 → j ≠ 4 → j ≠ 5 → I' 28 j = I 28 j) := by
      intro k hk htk
      refine ⟨_, rfl, ?_, (hTA.u (by decide)).u (by decide), fun c hc => by rw [u2_c hc, u2_c hc]; exact aC c hc, fun j h2 h3 h4 h5 => by rw [u2_ne (by omega), u2_ne (by omega)]; exact aJ j h3 h4⟩
      rw [htk]
      refine ⟨?_, ?_, ?_, fun h => ?_, ?_, ?_, ?_⟩
      · show _ = nI k
        rw [u2_ne (by omega), u2_at]
      · show _ = nI st
        rw [u2_ne (by omega), u2_ne (by omega)]; exact a3
      · show _ = nI (st + 1)
        rw [u2_at, u2_ne (by omega), a3, nI_1]
      · have : k = 2 := h
        omega
      · show k ≤ 4; omega
      · show st ≤ st + 1; omega
      · show st + 1 ≤ n; omega
    have hnl : ¬ n ≤ rn blk b n e := by rw [← hst]; omega
    by_cases hl : ltr (b st) = true
    · obtain ⟨q1, q2⟩ := (sb_ltr _ b1).mpr hl
      have hE := c_eor (b := b) (n := n) (p := ltr) (lo := 97) (hi := 122) sb_ltr n st N (upd2 A 28 2 1) (by omega) (by omega) (by omega) (hTA.u (by decide)) (by rw [u2_ne (by omega)]; exact a4)
      have htk : tkAt b n e = (1, st, rn ltr b n st, 0) := by
        unfold tkAt
        rw [if_neg hnl, ← hst, if_pos hl]
      refine ⟨upd2 (upd2 A 28 2 1) 28 4 (nI (rn ltr b n st)), ?_, ?_, (hTA.u (by decide)).u (by decide), fun c hc => by rw [u2_c hc, u2_c hc]; exact aC c hc, fun j h2 h3 h4 h5 => by rw [u2_ne (by omega), u2_ne (by omega)]; exact aJ j h3 h4⟩
      · rw [if_neg q1, if_neg q2]
        unfold mX5_endOfRow
        rw [hE, ob_some, ob_some]
      · rw [htk]
        refine ⟨?_, ?_, ?_, fun h => ?_, ?_, ?_, ?_⟩
        · show _ = nI 1
          rw [u2_ne (by omega), u2_at]; rfl
        · show _ = nI st
          rw [u2_ne (by omega), u2_ne (by omega)]; exact a3
        · show _ = nI (rn ltr b n st)
          rw [u2_at]
        · have : (1 : Nat) = 2 := h
          omega
        · show 1 ≤ 4; omega
        · exact rn_ge _ st (Nat.le_refl _)
        · exact rn_le _ st (Nat.le_refl _) hst1
    · by_cases hd : dgt (b st) = true
      · obtain ⟨q1, q2⟩ := (sb_dgt _ b1).mpr hd
        have q3 := sb_d97 _ b1 hd
        have hE := c_eor (b := b) (n := n) (p := dgt) (lo := 48) (hi := 57) sb_dgt n st N (upd2 A 28 2 2) (by omega) (by omega) (by omega) (hTA.u (by decide)) (by rw [u2_ne (by omega)]; exact a4)
        obtain ⟨en, hen⟩ : ∃ en, en = rn dgt b n st := ⟨_, rfl⟩
        have hen1 : st ≤ en := by rw [hen]; exact rn_ge _ st (Nat.le_refl _)
        have hen2 : en ≤ n := by rw [hen]; exact rn_le _ st (Nat.le_refl _) hst1
        rw [← hen] at hE
        obtain ⟨K, hK⟩ : ∃ K, K = upd2 (upd2 A 28 2 2) 28 4 (nI en) := ⟨_, rfl⟩
        have hTK : TxC b n K := by rw [hK]; exact (hTA.u (by decide)).u (by decide)
        have k4 : K 28 4 = nI en := by rw [hK, u2_at]
        have k3 : K 28 3 = nI st := by rw [hK, u2_ne (by omega), u2_ne (by omega)]; exact a3
        have k2 : K 28 2 = nI 2 := by rw [hK, u2_ne (by omega), u2_at]; rfl
        have kC : ∀ c, c ≠ 28 → K c = I c := fun c hc => by rw [hK, u2_c hc, u2_c hc]; exact aC c hc
        have kJ : ∀ j, j ≠ 2 → j ≠ 3 → j ≠ 4 → K 28 j = I 28 j := fun j h2 h3 h4 => by rw [hK, u2_ne (by omega), u2_ne (by omega)]; exact aJ j h3 h4
        have htk : tkAt b n e = (2, st, en, vl b st (if en - st ≤ 4 then en - st else 4)) := by
          unfold tkAt
          rw [if_neg hnl, ← hst, if_neg hl, if_pos hd, ← hen]
        have hdig : ∀ j, st ≤ j → j < en → dgt (b j) = true := fun j h1 h2 => rn_mem (n - st) st (Nat.le_refl _) j h1 (by rw [← hen]; exact h2)
        obtain ⟨r, er, hr⟩ : ∃ r, mX5_valueOfRow_7 K N 0 (nI st) = some r ∧ (en - st ≤ 4 → r = nI (vl b st (en - st))) := by
          by_cases h5 : en - st ≤ 4
          · exact ⟨_, c_val4 hTK k4 hen2 h5 hdig (en - st) 0 N (by omega) (by omega), fun _ => rfl⟩
          · obtain ⟨r, er⟩ := c_valX hTK k4 hen2 (en - st) st N 0 (by omega) (by omega)
            exact ⟨r, er, fun h => absurd h h5⟩
        refine ⟨upd2 K 28 5 r, ?_, ?_, hTK.u (by decide), fun c hc => by rw [u2_c hc]; exact kC c hc, fun j h2 h3 h4 h5 => by rw [u2_ne (by omega)]; exact kJ j h2 h3 h4⟩
        · rw [if_pos q3, if_neg q1, if_neg q2]
          unfold mX5_endOfRow mX5_valueOfRow
          rw [hE, ob_some, ob_some, ← hK, k3, er, ob_some, ob_some]
        · rw [htk]
          refine ⟨?_, ?_, ?_, fun _ h5 => ?_, ?_, hen1, hen2⟩
          · show _ = nI 2
            rw [u2_ne (by omega)]; exact k2
          · show _ = nI st
            rw [u2_ne (by omega)]; exact k3
          · show _ = nI en
            rw [u2_ne (by omega)]; exact k4
          · have h5' : en - st ≤ 4 := h5
            show _ = nI (vl b st (if en - st ≤ 4 then en - st else 4))
            rw [u2_at, if_pos h5', hr h5']
          · show 2 ≤ 4; omega
      · have h59 := sb_59 _ b1
        have htk : tkAt b n e = (if b st = 59 then 3 else 4, st, st + 1, 0) := by
          unfold tkAt
          rw [if_neg hnl, ← hst, if_neg hl, if_neg hd]
        have fin : ∃ I', (if sb (b st) = 59 then some (upd2 (upd2 A 28 2 3) 28 4 ((upd2 A 28 2 3) 28 3 + 1)) else some (upd2 (upd2 A 28 2 4) 28 4 ((upd2 A 28 2 4) 28 3 + 1))) = some I' ∧ CT n (tkAt b n e) I' ∧ TxC b n I' ∧ (∀ c, c ≠ 28 → I' c = I c) ∧ (∀ j, j ≠ 2 → j ≠ 3 → j ≠ 4 → j ≠ 5 → I' 28 j = I 28 j) := by
          by_cases h6 : b st = 59
          · rw [if_pos (h59.mpr h6)]
            exact one 3 (Or.inl rfl) (by rw [htk, if_pos h6])
          · rw [if_neg (fun h => h6 (h59.mp h))]
            exact one 4 (Or.inr rfl) (by rw [htk, if_neg h6])
        simp only [nm_x]
        by_cases q1 : sb (b st) < 97
        · rw [if_pos q1]
          by_cases q2 : sb (b st) < 48
          · rw [if_pos q2]; exact fin
          · rw [if_neg q2, if_pos (Classical.byContradiction fun q3 => hd ((sb_dgt _ b1).mp ⟨q2, q3⟩))]; exact fin
        · rw [if_neg q1, if_pos (Classical.byContradiction fun q3 => hl ((sb_ltr _ b1).mp ⟨q1, q3⟩))]
          by_cases q2 : sb (b st) < 48
          · rw [if_pos q2]; exact fin
          · rw [if_neg q2, if_pos (Classical.byContradiction fun q3 => hd ((sb_dgt _ b1).mp ⟨q2, q3⟩))]; exact fin
  · have hnl : n ≤ rn blk b n e := by rw [← hst]; omega
    have htk : tkAt b n e = (0, st, st, 0) := by
      unfold tkAt
      rw [if_pos hnl, ← hst]
    rw [if_neg (nI_nlt (by omega) (by omega))]
    refine ⟨_, rfl, ?_, hTA.u (by decide), fun c hc => by rw [u2_c hc]; exact aC c hc, fun j h2 h3 h4 h5 => by rw [u2_ne (by omega)]; exact aJ j h3 h4⟩
    rw [htk]
    refine ⟨?_, ?_, ?_, fun h => ?_, ?_, ?_, ?_⟩
    · show _ = nI 0
      rw [u2_at]; rfl
    · show _ = nI st
      rw [u2_ne (by omega)]; exact a3
    · show _ = nI st
      rw [u2_ne (by omega)]; exact a4
    · have : (0 : Nat) = 2 := h
      omega
    · show 0 ≤ 4; omega
    · show st ≤ st; omega
    · exact hst1
end CNx
