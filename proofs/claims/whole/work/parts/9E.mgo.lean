/-! the reference's next token: letters, and the whole of it -/
section MGo
variable {b : Nat → Nat} {n N : Nat} {I : gI}
/-- letters, five bits each -/
def pkw (b : Nat → Nat) (st : Nat) : Nat → Nat
  | 0 => 0
  | k + 1 => 32 * pkw b st k + (b (st + k) - 96)
def p32 : Nat → Nat
  | 0 => 1
  | k + 1 => 32 * p32 k
theorem pkw_lt {st : Nat} : ∀ {k : Nat}, (∀ j, j < k → ltr (b (st + j)) = true) → pkw b st k < p32 k
  | 0, _ => Nat.one_pos
  | k + 1, h => by
    have ih := pkw_lt (st := st) (k := k) (fun j hj => h j (by omega))
    have h1 := h k (by omega)
    unfold ltr at h1
    simp at h1
    rw [pkw, p32]
    omega
theorem uJ_a {J : gJ} {a j : Nat} {v : Int64} : updJ J a j v a j = v := by simp [updJ]
theorem uJ_c {J : gJ} {a j a' : Nat} {v : Int64} (h : a' ≠ a) : updJ J a j v a' = J a' := by funext x; exact if_neg (fun e => h e.1)
theorem l5_or {p x : Nat} (hp : p < 1099511627776) (hx : x < 32) : (lN p <<< ((5 : Int32).toInt64 &&& 63)) ||| lN x = lN (32 * p + x) := by
  apply Int64.toBitVec.inj
  rw [Int64.toBitVec_or, Int64.toBitVec_shiftLeft, show ((5 : Int32).toInt64 &&& 63).toBitVec.smod 64 = 5#64 by decide]
  show (BitVec.ofNat 64 p <<< (5#64).toNat ||| BitVec.ofNat 64 x) = BitVec.ofNat 64 (32 * p + x)
  apply BitVec.eq_of_toNat_eq
  rw [BitVec.toNat_or, BitVec.toNat_shiftLeft, BitVec.toNat_ofNat, BitVec.toNat_ofNat, BitVec.toNat_ofNat, BitVec.toNat_ofNat, Nat.mod_eq_of_lt (a := p) (by omega), Nat.mod_eq_of_lt (a := x) (by omega), Nat.mod_eq_of_lt (a := 32 * p + x) (by omega)]
  show (p <<< 5) % 2 ^ 64 ||| x = 32 * p + x
  rw [Nat.mod_eq_of_lt (by rw [Nat.shiftLeft_eq]; omega), ← Nat.shiftLeft_add_eq_or_of_lt (show x < 2 ^ 5 by omega), Nat.shiftLeft_eq]
  omega
theorem m_g103 {st : Nat} : ∀ (m i fu : Nat) (I : gI) (J : gJ), n - i ≤ m → m < fu → st ≤ i → i ≤ n → (∀ j, st ≤ j → j < i → ltr (b j) = true) → TxM b n I → I 310 7 = nI i → I 310 9 = nI st → J 310 12 = lN (pkw b st (if i - st ≤ 6 then i - st else 6)) → ∃ I' J', mX11_goes_103 fu I J = some (I', J') ∧ I' 310 7 = nI (rn ltr b n i) ∧ J' 310 12 = lN (pkw b st (if rn ltr b n i - st ≤ 6 then rn ltr b n i - st else 6)) ∧ (∀ c, c ≠ 310 → I' c = I c) ∧ (∀ j, j ≠ 7 → I' 310 j = I 310 j) ∧ J' 337 = J 337 := by
  intro m
  induction m with
  | zero =>
    intro i fu I J h1 h2 h3 h4 hd hT h7 h9 h11
    obtain ⟨k, rfl⟩ : ∃ k, fu = k + 1 := ⟨fu - 1, by omega⟩
    have hn7 := hT.1
    have e1 : mX11_isLetter 0 I = some 0 := by unfold mX11_isLetter; rw [if_pos (by decide)]
    refine ⟨I, J, ?_, by rw [rn_end (by omega)]; exact h7, by rw [rn_end (by omega)]; exact h11, fun _ _ => rfl, fun _ _ => rfl, rfl⟩
    rw [mX11_goes_103, h7, m_byte0 hT (by omega) (by omega), ob_some, e1, ob_some, if_pos rfl]
  | succ m ih =>
    intro i fu I J h1 h2 h3 h4 hd hT h7 h9 h11
    obtain ⟨k, rfl⟩ : ∃ k, fu = k + 1 := ⟨fu - 1, by omega⟩
    have hn7 := hT.1
    by_cases hi : i < n
    · obtain ⟨b1, b2⟩ := hT.2.2 i hi
      have hb := nb_ltr _ b1
      by_cases hc : ltr (b i) = true
      · obtain ⟨q1, q2⟩ := hb.mpr hc
        have e1 : mX11_isLetter (nI (b i)) I = some 1 := by unfold mX11_isLetter; rw [if_neg q1, if_neg q2]
        have hd' : ∀ j, st ≤ j → j < i + 1 → ltr (b j) = true := fun j g1 g2 => by
          by_cases e : j = i
          · rw [e]; exact hc
          · exact hd j g1 (by omega)
        have hcd := hc
        unfold ltr at hcd
        simp at hcd
        rw [rn_on hi hc]
        by_cases hl : 6 ≤ i - st
        · obtain ⟨I', J', e', r1, r2, r3, r4, r5⟩ := ih (i + 1) k (upd2 I 310 7 (nI (i + 1))) J (by omega) (by omega) (by omega) (by omega) hd' (hT.u (by decide)) u2_at (by rw [u2_ne (by omega)]; exact h9) (by
            rw [h11]
            congr 2
            by_cases h5 : i - st ≤ 6
            · rw [if_pos h5, if_neg (by omega)]; omega
            · rw [if_neg h5, if_neg (by omega)])
          refine ⟨I', J', ?_, r1, r2, fun c hc' => by rw [r3 c hc', u2_c hc'], fun j j7 => by rw [r4 j j7, u2_ne (by omega)], r5⟩
          rw [mX11_goes_103, h7, m_byte hT hi, ob_some, e1, ob_some, if_neg (by decide), h9, nI_sub (by omega), if_pos (show (6 : Int32) ≤ nI (i - st) from nI_le (a := 6) hl (by omega)), nI_1, e']
        · have hv := pkw_lt (b := b) (st := st) (k := i - st) (fun j hj => hd (st + j) (by omega) (by omega))
          have hv2 := (by decide : ∀ k, k ≤ 5 → p32 k ≤ 33554432) (i - st) (by omega)
          rw [if_pos (by omega)] at h11
          have ev : (lN (pkw b st (i - st)) <<< ((5 : Int32).toInt64 &&& 63)) ||| (nI (b i) - 96).toInt64 = lN (pkw b st (i + 1 - st)) := by
            rw [show i + 1 - st = (i - st) + 1 by omega, pkw, show st + (i - st) = i by omega, show (96 : Int32) = nI 96 from rfl, nI_sub (by omega), nI_l (by omega), l5_or (by omega) (by omega)]
          obtain ⟨I', J', e', r1, r2, r3, r4, r5⟩ := ih (i + 1) k (upd2 I 310 7 (nI (i + 1))) (updJ J 310 12 (lN (pkw b st (i + 1 - st)))) (by omega) (by omega) (by omega) (by omega) hd' (hT.u (by decide)) u2_at (by rw [u2_ne (by omega)]; exact h9) (by
            rw [uJ_a, if_pos (by omega)])
          refine ⟨I', J', ?_, r1, r2, fun c hc' => by rw [r3 c hc', u2_c hc'], fun j j7 => by rw [r4 j j7, u2_ne (by omega)], by rw [r5, uJ_c (by decide)]⟩
          rw [mX11_goes_103, h7, m_byte hT hi, ob_some, e1, ob_some, if_neg (by decide), h9, nI_sub (by omega), if_neg (show ¬ (6 : Int32) ≤ nI (i - st) from nI_ge (b := 6) (by omega) (by omega)), ob_some, h11, ev, nm_n, nI_1, e']
      · have e1 : mX11_isLetter (nI (b i)) I = some 0 := by
          unfold mX11_isLetter
          by_cases q1 : nI (b i) < 97
          · rw [if_pos q1]
          · rw [if_neg q1, if_pos (Classical.byContradiction fun q2 => hc (hb.mp ⟨q1, q2⟩))]
        refine ⟨I, J, ?_, by rw [rn_end (fun h => hc h.2)]; exact h7, by rw [rn_end (fun h => hc h.2)]; exact h11, fun _ _ => rfl, fun _ _ => rfl, rfl⟩
        rw [mX11_goes_103, h7, m_byte hT hi, ob_some, e1, ob_some, if_pos rfl]
    · have e1 : mX11_isLetter 0 I = some 0 := by unfold mX11_isLetter; rw [if_pos (by decide)]
      refine ⟨I, J, ?_, by rw [rn_end (fun h => hi h.1)]; exact h7, by rw [rn_end (fun h => hi h.1)]; exact h11, fun _ _ => rfl, fun _ _ => rfl, rfl⟩
      rw [mX11_goes_103, h7, m_byte0 hT (by omega) (by omega), ob_some, e1, ob_some, if_pos rfl]
/-- the reference shows a token -/
def MT (b : Nat → Nat) (n : Nat) (t : Tk) (I : gI) (J : gJ) : Prop := I 310 8 = nI t.1 ∧ I 310 9 = nI t.2.1 ∧ I 310 7 = nI t.2.2.1 ∧ I 310 10 = nI (t.2.2.1 - t.2.1) ∧ (t.1 = 2 → I 310 11 = nI t.2.2.2) ∧ (t.1 = 1 → J 310 12 = lN (pkw b t.2.1 (if t.2.2.1 - t.2.1 ≤ 6 then t.2.2.1 - t.2.1 else 6))) ∧ t.1 ≤ 4 ∧ t.2.1 ≤ t.2.2.1 ∧ t.2.2.1 ≤ n
theorem mt_fin {K : gI} {J' : gJ} {k st en v : Nat} {x : Int32} (hx : x = nI k) (h7 : K 310 7 = nI en) (h9 : K 310 9 = nI st) (hk : k ≤ 4) (h1 : st ≤ en) (h2 : en ≤ n) (hv : k = 2 → K 310 11 = nI v) (hw : k = 1 → J' 310 12 = lN (pkw b st (if en - st ≤ 6 then en - st else 6))) : MT b n (k, st, en, v) (upd2 (upd2 K 310 8 x) 310 10 (nI (en - st))) J' := by
  refine ⟨?_, ?_, ?_, ?_, fun h => ?_, hw, hk, h1, h2⟩
  · show _ = nI k
    rw [u2_ne (by omega), u2_at, hx]
  · show _ = nI st
    rw [u2_ne (by omega), u2_ne (by omega)]; exact h9
  · show _ = nI en
    rw [u2_ne (by omega), u2_ne (by omega)]; exact h7
  · show _ = nI (en - st)
    rw [u2_at]
  · show _ = nI v
    rw [u2_ne (by omega), u2_ne (by omega)]; exact hv h
theorem fin_eq {K : gI} {st en : Nat} {x : Int32} (h7 : K 310 7 = nI en) (h9 : K 310 9 = nI st) (h : st ≤ en) : upd2 (upd2 K 310 8 x) 310 10 ((upd2 K 310 8 x) 310 7 - (upd2 K 310 8 x) 310 9) = upd2 (upd2 K 310 8 x) 310 10 (nI (en - st)) := by
  rw [u2_ne (show ¬ (310 = 310 ∧ 7 = 8) by omega), u2_ne (show ¬ (310 = 310 ∧ 9 = 8) by omega), h7, h9, nI_sub h]
set_option maxHeartbeats 1000000 in
theorem m_goes {J : gJ} (hN : 2000 ≤ N) {e : Nat} (hT : TxM b n I) (he : e ≤ n) (h7 : I 310 7 = nI e) : ∃ I' J', mX11_goes N I J = some (I', J') ∧ MT b n (tkAt b n e) I' J' ∧ TxM b n I' ∧ (∀ c, c ≠ 310 → I' c = I c) ∧ (∀ j, j < 7 ∨ 11 < j → I' 310 j = I 310 j) ∧ J' 337 = J 337 := by
  have hn7 := hT.1
  obtain ⟨st, hst⟩ : ∃ st, st = rn blk b n e := ⟨_, rfl⟩
  have hst1 : st ≤ n := by rw [hst]; exact rn_le _ e (Nat.le_refl _) he
  have e8 := m_go0 (b := b) (n := n) (J := J) n e N I (by omega) (by omega) he hT h7
  rw [← hst] at e8
  obtain ⟨B, hB⟩ : ∃ B, B = upd2 I 310 7 (nI st) := ⟨_, rfl⟩
  rw [← hB] at e8
  obtain ⟨A, hA⟩ : ∃ A, A = upd2 (upd2 B 310 9 (B 310 7)) 310 11 0 := ⟨_, rfl⟩
  have b7 : B 310 7 = nI st := by rw [hB, u2_at]
  have a7 : A 310 7 = nI st := by rw [hA, u2_ne (by omega), u2_ne (by omega), b7]
  have a9 : A 310 9 = nI st := by rw [hA, u2_ne (by omega), u2_at, b7]
  have a11 : A 310 11 = 0 := by rw [hA, u2_at]
  have hTA : TxM b n A := by rw [hA, hB]; exact ((hT.u (by decide)).u (by decide)).u (by decide)
  have aC : ∀ c, c ≠ 310 → A c = I c := fun c hc => by rw [hA, u2_c hc, u2_c hc, hB, u2_c hc]
  have aJ : ∀ j, j < 7 ∨ 11 < j → A 310 j = I 310 j := fun j h => by rw [hA, u2_ne (by omega), u2_ne (by omega), hB, u2_ne (by omega)]
  unfold mX11_goes
  rw [e8, ob_some, ← hA, a7, hTA.2.1]
  by_cases hlt : st < n
  · obtain ⟨b1, b2⟩ := hTA.2.2 st hlt
    rw [m_byte hTA hlt, ob_some, if_pos (nI_lt hlt (by omega))]
    have hnl : ¬ n ≤ rn blk b n e := by rw [← hst]; omega
    by_cases hl : ltr (b st) = true
    · obtain ⟨q1, q2⟩ := (nb_ltr _ b1).mpr hl
      have e1 : mX11_isLetter (nI (b st)) A = some 1 := by unfold mX11_isLetter; rw [if_neg q1, if_neg q2]
      obtain ⟨K, J', eK, k7, kJ, kC, k3, k337⟩ := m_g103 (b := b) (n := n) (st := st) n st N A (updJ J 310 12 0) (by omega) (by omega) (Nat.le_refl _) hst1 (fun j g1 g2 => by omega) hTA a7 a9 (by rw [uJ_a, Nat.sub_self]; rfl)
      have htk : tkAt b n e = (1, st, rn ltr b n st, 0) := by
        unfold tkAt
        rw [if_neg hnl, ← hst, if_pos hl]
      have k9 : K 310 9 = nI st := by rw [k3 9 (by omega), a9]
      have hen1 : st ≤ rn ltr b n st := rn_ge _ st (Nat.le_refl _)
      refine ⟨upd2 (upd2 K 310 8 1) 310 10 (nI (rn ltr b n st - st)), J', ?_, ?_, ?_, fun c hc => by rw [u2_c hc, u2_c hc, kC c hc]; exact aC c hc, fun j h => by rw [u2_ne (by omega), u2_ne (by omega), k3 j (by omega)]; exact aJ j h, by rw [k337, uJ_c (by decide)]⟩
      · rw [e1, ob_some, if_neg (by decide), eK, ob_some]
        dsimp only
        rw [nm_n, fin_eq k7 k9 hen1]
      · rw [htk]
        exact mt_fin rfl k7 k9 (by omega) hen1 (rn_le _ st (Nat.le_refl _) hst1) (fun h => absurd h (by decide)) (fun _ => kJ)
      · refine TxM.u (TxM.u ⟨hTA.1, by rw [k3 6 (by omega)]; exact hTA.2.1, fun j hj => by rw [kC 311 (by decide)]; exact hTA.2.2 j hj⟩ (by decide)) (by decide)
    · have e1 : mX11_isLetter (nI (b st)) A = some 0 := by
        unfold mX11_isLetter
        by_cases q1 : nI (b st) < 97
        · rw [if_pos q1]
        · rw [if_neg q1, if_pos (Classical.byContradiction fun q2 => hl ((nb_ltr _ b1).mp ⟨q1, q2⟩))]
      rw [e1, ob_some, if_pos rfl]
      by_cases hd : dgt (b st) = true
      · obtain ⟨q1, q2⟩ := (nb_dgt _ b1).mpr hd
        have e2 : mX11_isDigit (nI (b st)) A = some 1 := by unfold mX11_isDigit; rw [if_neg q1, if_neg q2]
        obtain ⟨K, eK, k7, k11, kC, k3⟩ := m_g182 (b := b) (n := n) (st := st) (J := updJ J 310 12 0) n st N A (by omega) (by omega) (Nat.le_refl _) hst1 (fun j g1 g2 => by omega) hTA a7 a9 (by rw [a11, Nat.sub_self]; rfl)
        have htk : tkAt b n e = (2, st, rn dgt b n st, vl b st (if rn dgt b n st - st ≤ 4 then rn dgt b n st - st else 4)) := by
          unfold tkAt
          rw [if_neg hnl, ← hst, if_neg hl, if_pos hd]
        have k9 : K 310 9 = nI st := by rw [k3 9 (by omega) (by omega), a9]
        have hen1 : st ≤ rn dgt b n st := rn_ge _ st (Nat.le_refl _)
        refine ⟨upd2 (upd2 K 310 8 2) 310 10 (nI (rn dgt b n st - st)), updJ J 310 12 0, ?_, ?_, ?_, fun c hc => by rw [u2_c hc, u2_c hc, kC c hc]; exact aC c hc, fun j h => by rw [u2_ne (by omega), u2_ne (by omega), k3 j (by omega) (by omega)]; exact aJ j h, by rw [uJ_c (by decide)]⟩
        · rw [e2, ob_some, if_neg (by decide), eK, ob_some, nm_n, fin_eq k7 k9 hen1]
        · rw [htk]
          exact mt_fin rfl k7 k9 (by omega) hen1 (rn_le _ st (Nat.le_refl _) hst1) (fun _ => k11) (fun h => absurd h (by decide))
        · refine TxM.u (TxM.u ⟨hTA.1, by rw [k3 6 (by omega) (by omega)]; exact hTA.2.1, fun j hj => by rw [kC 311 (by decide)]; exact hTA.2.2 j hj⟩ (by decide)) (by decide)
      · have e2 : mX11_isDigit (nI (b st)) A = some 0 := by
          unfold mX11_isDigit
          by_cases q1 : nI (b st) < 48
          · rw [if_pos q1]
          · rw [if_neg q1, if_pos (Classical.byContradiction fun q2 => hd ((nb_dgt _ b1).mp ⟨q1, q2⟩))]
        have htk : tkAt b n e = (if b st = 59 then 3 else 4, st, st + 1, 0) := by
          unfold tkAt
          rw [if_neg hnl, ← hst, if_neg hl, if_neg hd]
        obtain ⟨K, hK⟩ : ∃ K, K = upd2 A 310 7 (nI (st + 1)) := ⟨_, rfl⟩
        have k7 : K 310 7 = nI (st + 1) := by rw [hK, u2_at]
        have k9 : K 310 9 = nI st := by rw [hK, u2_ne (by omega), a9]
        have hTK : TxM b n K := by rw [hK]; exact hTA.u (by decide)
        rw [e2, ob_some, if_pos rfl, nI_1, ← hK, nm_n]
        have one : ∀ (x : Int32) (k : Nat), x = nI k → k = 3 ∨ k = 4 → tkAt b n e = (k, st, st + 1, 0) → ∃ I' J', nm (upd2 (upd2 K 310 8 x) 310 10 ((upd2 K 310 8 x) 310 7 - (upd2 K 310 8 x) 310 9)) (fun I23 => some (I23, updJ J 310 12 0)) = some (I', J') ∧ MT b n (tkAt b n e) I' J' ∧ TxM b n I' ∧ (∀ c, c ≠ 310 → I' c = I c) ∧ (∀ j, j < 7 ∨ 11 < j → I' 310 j = I 310 j) ∧ J' 337 = J 337 := by
          intro x k hx hk ht
          refine ⟨upd2 (upd2 K 310 8 x) 310 10 (nI (st + 1 - st)), updJ J 310 12 0, ?_, ?_, (hTK.u (by decide)).u (by decide), fun c hc => by rw [u2_c hc, u2_c hc, hK, u2_c hc]; exact aC c hc, fun j h => by rw [u2_ne (by omega), u2_ne (by omega), hK, u2_ne (by omega)]; exact aJ j h, by rw [uJ_c (by decide)]⟩
          · rw [nm_n, fin_eq k7 k9 (by omega)]
          · rw [ht]
            exact mt_fin hx k7 k9 (by omega) (by omega) (by omega) (fun h => by omega) (fun h => by omega)
        have h59 := nb_59 _ b1
        by_cases h6 : b st = 59
        · rw [if_pos (h59.mpr h6)]
          exact one 3 3 rfl (Or.inl rfl) (by rw [htk, if_pos h6])
        · rw [if_neg (fun h => h6 (h59.mp h))]
          exact one 4 4 rfl (Or.inr rfl) (by rw [htk, if_neg h6])
  · have hnl : n ≤ rn blk b n e := by rw [← hst]; omega
    have htk : tkAt b n e = (0, st, st, 0) := by
      unfold tkAt
      rw [if_pos hnl, ← hst]
    refine ⟨upd2 (upd2 A 310 8 0) 310 10 (nI (st - st)), updJ J 310 12 0, ?_, ?_, (hTA.u (by decide)).u (by decide), fun c hc => by rw [u2_c hc, u2_c hc]; exact aC c hc, fun j h => by rw [u2_ne (by omega), u2_ne (by omega)]; exact aJ j h, by rw [uJ_c (by decide)]⟩
    · rw [m_byte0 hTA (by omega) (by omega), ob_some, if_neg (nI_nlt (by omega) (by omega)), nm_n, nm_n, nm_n, fin_eq a7 a9 (Nat.le_refl _)]
    · rw [htk]
      exact mt_fin rfl a7 a9 (by omega) (Nat.le_refl _) hst1 (fun h => absurd h (by decide)) (fun h => absurd h (by decide))
end MGo
