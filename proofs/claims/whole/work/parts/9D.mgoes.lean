/-! the reference's next token: digits -/
section MDig
variable {b : Nat → Nat} {n N : Nat} {I : gI}
theorem vl_bd {st k : Nat} (hk : k ≤ 4) (h : ∀ j, j < k → dgt (b (st + j)) = true) : vl b st k ≤ 10000 := by
  have h1 := vl_lt h
  have h2 := (by decide : ∀ k, k ≤ 4 → p4 k ≤ 10000) k hk
  omega
theorem m_g182 {J : gJ} {st : Nat} : ∀ (m i fu : Nat) (I : gI), n - i ≤ m → m < fu → st ≤ i → i ≤ n → (∀ j, st ≤ j → j < i → dgt (b j) = true) → TxM b n I → I 310 7 = nI i → I 310 9 = nI st → I 310 11 = nI (vl b st (if i - st ≤ 4 then i - st else 4)) → ∃ I', mX11_goes_182 J fu I = some I' ∧ I' 310 7 = nI (rn dgt b n i) ∧ I' 310 11 = nI (vl b st (if rn dgt b n i - st ≤ 4 then rn dgt b n i - st else 4)) ∧ (∀ c, c ≠ 310 → I' c = I c) ∧ ∀ j, j ≠ 7 → j ≠ 11 → I' 310 j = I 310 j := by
  intro m
  induction m with
  | zero =>
    intro i fu I h1 h2 h3 h4 hd hT h7 h9 h11
    obtain ⟨k, rfl⟩ : ∃ k, fu = k + 1 := ⟨fu - 1, by omega⟩
    have hn7 := hT.1
    have e1 : mX11_isDigit 0 I = some 0 := by unfold mX11_isDigit; rw [if_pos (by decide)]
    refine ⟨I, ?_, by rw [rn_end (by omega)]; exact h7, by rw [rn_end (by omega)]; exact h11, fun _ _ => rfl, fun _ _ _ => rfl⟩
    rw [mX11_goes_182, h7, m_byte0 hT (by omega) (by omega), ob_some, e1, ob_some, if_pos rfl]
  | succ m ih =>
    intro i fu I h1 h2 h3 h4 hd hT h7 h9 h11
    obtain ⟨k, rfl⟩ : ∃ k, fu = k + 1 := ⟨fu - 1, by omega⟩
    have hn7 := hT.1
    by_cases hi : i < n
    · obtain ⟨b1, b2⟩ := hT.2.2 i hi
      have hb := nb_dgt _ b1
      by_cases hc : dgt (b i) = true
      · obtain ⟨q1, q2⟩ := hb.mpr hc
        have e1 : mX11_isDigit (nI (b i)) I = some 1 := by unfold mX11_isDigit; rw [if_neg q1, if_neg q2]
        have hd' : ∀ j, st ≤ j → j < i + 1 → dgt (b j) = true := fun j g1 g2 => by
          by_cases e : j = i
          · rw [e]; exact hc
          · exact hd j g1 (by omega)
        have hcd := hc
        unfold dgt at hcd
        simp at hcd
        rw [rn_on hi hc]
        by_cases hl : 4 ≤ i - st
        · obtain ⟨I', e', r1, r2, r3, r4⟩ := ih (i + 1) k (upd2 I 310 7 (nI (i + 1))) (by omega) (by omega) (by omega) (by omega) hd' (hT.u (by decide)) u2_at (by rw [u2_ne (by omega)]; exact h9) (by
            rw [u2_ne (by omega), h11]
            congr 2
            by_cases h5 : i - st ≤ 4
            · rw [if_pos h5, if_neg (by omega)]; omega
            · rw [if_neg h5, if_neg (by omega)])
          refine ⟨I', ?_, r1, r2, fun c hc' => by rw [r3 c hc', u2_c hc'], fun j j7 j11 => by rw [r4 j j7 j11, u2_ne (by omega)]⟩
          rw [mX11_goes_182, h7, m_byte hT hi, ob_some, e1, ob_some, if_neg (by decide), h9, nI_sub (by omega), if_pos (show (4 : Int32) ≤ nI (i - st) from nI_le (a := 4) hl (by omega)), nI_1, e']
        · have hv := vl_bd (b := b) (st := st) (k := i - st) (by omega) (fun j hj => hd (st + j) (by omega) (by omega))
          rw [if_pos (by omega)] at h11
          have ev : (10 : Int32) * nI (vl b st (i - st)) + nI (b i) - 48 = nI (vl b st (i + 1 - st)) := by
            rw [show i + 1 - st = (i - st) + 1 by omega, vl, show st + (i - st) = i by omega, show (10 : Int32) = nI 10 from rfl, nI_mul, nI_add, show (48 : Int32) = nI 48 from rfl, nI_sub (by omega)]
            congr 1
            omega
          obtain ⟨I', e', r1, r2, r3, r4⟩ := ih (i + 1) k (upd2 (upd2 I 310 11 (nI (vl b st (i + 1 - st)))) 310 7 (nI (i + 1))) (by omega) (by omega) (by omega) (by omega) hd' ((hT.u (by decide)).u (by decide)) u2_at (by rw [u2_ne (by omega), u2_ne (by omega)]; exact h9) (by
            rw [u2_ne (by omega), u2_at, if_pos (by omega)])
          refine ⟨I', ?_, r1, r2, fun c hc' => by rw [r3 c hc', u2_c hc', u2_c hc'], fun j j7 j11 => by rw [r4 j j7 j11, u2_ne (by omega), u2_ne (by omega)]⟩
          rw [mX11_goes_182, h7, m_byte hT hi, ob_some, e1, ob_some, if_neg (by decide), h9, nI_sub (by omega), if_neg (show ¬ (4 : Int32) ≤ nI (i - st) from nI_ge (b := 4) (by omega) (by omega)), ob_some, h11, ev, nm_n, u2_ne (by omega), h7, nI_1, e']
      · have e1 : mX11_isDigit (nI (b i)) I = some 0 := by
          unfold mX11_isDigit
          by_cases q1 : nI (b i) < 48
          · rw [if_pos q1]
          · rw [if_neg q1, if_pos (Classical.byContradiction fun q2 => hc (hb.mp ⟨q1, q2⟩))]
        refine ⟨I, ?_, by rw [rn_end (fun h => hc h.2)]; exact h7, by rw [rn_end (fun h => hc h.2)]; exact h11, fun _ _ => rfl, fun _ _ _ => rfl⟩
        rw [mX11_goes_182, h7, m_byte hT hi, ob_some, e1, ob_some, if_pos rfl]
    · have e1 : mX11_isDigit 0 I = some 0 := by unfold mX11_isDigit; rw [if_pos (by decide)]
      refine ⟨I, ?_, by rw [rn_end (fun h => hi h.1)]; exact h7, by rw [rn_end (fun h => hi h.1)]; exact h11, fun _ _ => rfl, fun _ _ _ => rfl⟩
      rw [mX11_goes_182, h7, m_byte0 hT (by omega) (by omega), ob_some, e1, ob_some, if_pos rfl]
end MDig
