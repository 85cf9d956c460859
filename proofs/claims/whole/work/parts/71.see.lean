/-! see -/
section SeeS
variable {ν : Nt} {σ : St} {ks : List St} {vs : List (Nat → Nat)} {N c : Nat} {I I1 I2 : gI}
theorem nod_ck (hn : WfN ν) (a : Int32) : (∃ n, n < ν.nn ∧ a = nI n ∧ ∀ I, NetM ν I → I 310 0 = 0 → mX11_isNode a I = some (1, I)) ∨ ((a < 0 ∨ (¬ a < 0 ∧ nI ν.nn ≤ a ∧ ¬ a < nI ν.nn)) ∧ ∀ I, NetM ν I → I 310 0 = 0 → mX11_isNode a I = some (0, upd2 I 310 0 1)) := by
  have hnn := hn.2.1
  rcases i_nn a with h | ⟨n, h1, rfl⟩
  · right
    refine ⟨Or.inl h, fun I hI h0 => ?_⟩
    unfold mX11_isNode
    rw [if_pos h, ob_some, m_right0 h0 (by decide)]
    rfl
  · by_cases h2 : n < ν.nn
    · left
      refine ⟨n, h2, rfl, fun I hI h0 => ?_⟩
      unfold mX11_isNode
      rw [if_neg (nI_pos (by omega)), hI.1, if_neg (nI_ge h2 (by omega)), ob_some, m_right1 h0]
      rfl
    · right
      refine ⟨Or.inr ⟨nI_pos (by omega), nI_le (by omega) (by omega), nI_nlt (by omega) (by omega)⟩, fun I hI h0 => ?_⟩
      unfold mX11_isNode
      rw [if_neg (nI_pos (by omega)), hI.1, if_pos (nI_le (by omega) (by omega)), ob_some, m_right0 h0 (by decide)]
      rfl
theorem c_nod1 (hn : WfN ν) (hI : NetC ν I) {n m : Nat} (h1 : n < ν.nn) (h2 : m < ν.nn) : mX10_checkNodes (nI n) (nI m) I = some (.inl ()) := by
  have hnn := hn.2.1
  unfold mX10_checkNodes
  rw [if_neg (nI_pos (by omega)), hI.1, if_neg (nI_ge h1 (by omega)), if_neg (nI_pos (by omega)), if_pos (nI_lt h2 (by omega))]
theorem c_nod2 (hI : NetC ν I) {a b : Int32} (h : (a < 0 ∨ (¬ a < 0 ∧ nI ν.nn ≤ a ∧ ¬ a < nI ν.nn)) ∨ (¬ a < 0 ∧ ¬ nI ν.nn ≤ a ∧ (b < 0 ∨ (¬ b < 0 ∧ nI ν.nn ≤ b ∧ ¬ b < nI ν.nn)))) : mX10_checkNodes a b I = some (.inr xnN) := by
  unfold mX10_checkNodes
  rw [hI.1]
  rcases h with (h | h) | ⟨h1, h2, h | h⟩
  · rw [if_pos h]
  · rw [if_neg h.1, if_pos h.2.1]
  · rw [if_neg h1, if_neg h2, if_pos h]
  · rw [if_neg h1, if_neg h2, if_neg h.1, if_neg h.2.2]
theorem Inv_ref5 (h : Pk ν σ ks vs I) (mv : Mv c I) (s2 : Sm (upd2 I 0 5 (I 0 5 + 1)) I2) : Inv (c + 1) (upd2 I2 312 2 (I2 312 2 + 1)) := by
  have ct := h.2.2.2.2.2.2.2.2.2.2
  have key : ∀ c j, Kp c j → ¬ (c = 0 ∧ j = 5) → ¬ (c = 312 ∧ j = 2) → (upd2 I2 312 2 (I2 312 2 + 1)) c j = I c j := by
    intro c j k e1 e2
    rw [u2_ne e2, s2 c j k, u2_ne e1]
  refine ⟨⟨ν, σ, ks, vs, Pk_ref h key (by omega) ?_⟩, ?_⟩
  · refine ⟨?_, ?_, ?_, ?_⟩
    · rw [key 310 4 (by unfold Kp; omega) (by omega) (by omega), key 0 2 (by unfold Kp; omega) (by omega) (by omega)]; exact ct.1
    · rw [key 312 0 (by unfold Kp; omega) (by omega) (by omega), key 0 3 (by unfold Kp; omega) (by omega) (by omega)]; exact ct.2.1
    · rw [key 312 1 (by unfold Kp; omega) (by omega) (by omega), key 0 4 (by unfold Kp; omega) (by omega) (by omega)]; exact ct.2.2.1
    · rw [u2_at, u2_c (by decide), s2 0 5 (by unfold Kp; omega), u2_at, s2 312 2 (by unfold Kp; omega), u2_c (by decide), ct.2.2.2]
  · refine (mv.sm2 (fun c j k => ?_)).up
    exact key c j (kp2_kp k) (by unfold Kp2 at k; omega) (by unfold Kp2 at k; omega)
theorem m_refuses2 : mX11_refuses 2 I = some (-1, upd2 I 312 2 (I 312 2 + 1)) := rfl
def mkV (a b d p f : Nat) : Nat → Nat
  | 0 => a
  | 1 => b
  | 2 => d
  | 3 => p
  | _ => f
/-- one more is seen -/
theorem Inv_see (h : Pk ν σ ks vs I) (mv : Mv c I) (hl : vs.length < 8) {v : Nat → Nat} (hv : SnOk ν v)
    (k1 : ∀ c j, Kp c j → ¬ (c = 173 ∧ j = 5) → ¬ (174 ≤ c ∧ c ≤ 178 ∧ j = vs.length) → ¬ (c = 310 ∧ j = 45) → ¬ (c = 333 ∧ 5 * vs.length ≤ j ∧ j < 5 * vs.length + 5) → I2 c j = I c j)
    (h5 : I2 173 5 = nI (vs.length + 1)) (h45 : I2 310 45 = nI (vs.length + 1)) (hc : ∀ k, k < 5 → I2 (173 + 1 + k) vs.length = nI (v k)) (hm : ∀ k, k < 5 → I2 333 (5 * vs.length + k) = nI (v k)) : Inv (c + 1) I2 := by
  obtain ⟨hn, g, c1, m1, c2, m2, ac, sg, im, tp, ct⟩ := id h
  obtain ⟨g1, g2, g3, g4, g5⟩ := id sg
  obtain ⟨X, hX⟩ : ∃ X : gI, X = fun c j => if (c = 173 ∧ j = 5) ∨ (174 ≤ c ∧ c ≤ 178 ∧ j = vs.length) ∨ (c = 310 ∧ j = 45) ∨ (c = 333 ∧ 5 * vs.length ≤ j ∧ j < 5 * vs.length + 5) then I c j else I2 c j := ⟨_, rfl⟩
  have hXe : ∀ c j, ¬ ((c = 173 ∧ j = 5) ∨ (174 ≤ c ∧ c ≤ 178 ∧ j = vs.length) ∨ (c = 310 ∧ j = 45) ∨ (c = 333 ∧ 5 * vs.length ≤ j ∧ j < 5 * vs.length + 5)) → X c j = I2 c j := fun c j hc => by rw [hX]; exact if_neg hc
  have hsm : Sm I X := by
    intro c j k
    by_cases hc : (c = 173 ∧ j = 5) ∨ (174 ≤ c ∧ c ≤ 178 ∧ j = vs.length) ∨ (c = 310 ∧ j = 45) ∨ (c = 333 ∧ 5 * vs.length ≤ j ∧ j < 5 * vs.length + 5)
    · rw [hX]; exact if_pos hc
    · rw [hXe c j hc]
      exact k1 c j k (by omega) (by omega) (by omega) (by omega)
  have hXc : ∀ c, c ≠ 310 → c ≠ 333 → (c < 173 ∨ 178 < c) → I2 c = X c := fun c h1 h2 h3 => by funext j; exact (hXe c j (by omega)).symm
  have hX3 : ∀ j, j ≠ 45 → I2 310 j = X 310 j := fun j hj => (hXe 310 j (by omega)).symm
  obtain ⟨-, -, c1x, m1x, c2x, m2x, acx, -, imx, tpx, ctx⟩ := h.sm hsm
  have mvx := mv.sm hsm
  refine ⟨⟨ν, σ, ks, vs ++ [v], hn, g, ?_, ?_, c2x.eq (hXc _ (by omega) (by omega) (by omega)) (hXc _ (by omega) (by omega) (by omega)) (hXc _ (by omega) (by omega) (by omega)), m2x.c (hXc _ (by omega) (by omega) (by omega)), ⟨acx.1, acx.2.1, acx.2.2.1.fr (fun c q1 q2 => hXc c (by omega) (by omega) (by omega)), Rows.fr hn acx.2.1 acx.2.2.2 (hXc _ (by omega) (by omega) (by omega)) (hX3 25 (by omega))⟩, ⟨by simp; omega, fun w hw => ?_, by rw [h5]; simp, by rw [h45]; simp, fun j hj k hk => ?_⟩, ?_, ?_, ?_⟩, ?_⟩
  · exact c1x.fr (X := [173, 174, 175, 176, 177, 178, 310, 333]) (fun c hc => hXc c (by simp at hc; omega) (by simp at hc; omega) (by simp at hc; omega)) (by simp)
  · exact ⟨by rw [hX3 _ (by omega)]; exact m1x.1, by rw [hX3 _ (by omega)]; exact m1x.2.1, by rw [hX3 _ (by omega)]; exact m1x.2.2.1, by rw [hXc 313 (by omega) (by omega) (by omega)]; exact m1x.2.2.2.1, by rw [hXc 315 (by omega) (by omega) (by omega)]; exact m1x.2.2.2.2⟩
  · rcases List.mem_append.mp hw with hw | hw
    · exact g2 w hw
    · rw [List.mem_singleton.mp hw]; exact hv
  · have hj' : j < vs.length + 1 := by rw [List.length_append] at hj; exact hj
    by_cases e : j = vs.length
    · subst e
      have : (vs ++ [v])[vs.length] = v := by rw [List.getElem_append_right (by omega)]; simp
      rw [this]
      exact ⟨hc k hk, hm k hk⟩
    · have : (vs ++ [v])[j] = vs[j] := List.getElem_append_left (by omega)
      rw [this, k1 (173 + 1 + k) j (by unfold Kp; omega) (by omega) (by omega) (by omega) (by omega), k1 333 (5 * j + k) (by unfold Kp; omega) (by omega) (by omega) (by omega) (by omega)]
      exact g5 j (by omega) k hk
  · obtain ⟨i1, i2⟩ := imx
    refine ⟨by rw [hX3 _ (by omega), hXc 0 (by omega) (by omega) (by omega)]; exact i1, ?_⟩
    rw [hXc 0 (by omega) (by omega) (by omega)]
    rcases i2 with i2 | ⟨i2, σi, ki, vi, gi, ci, mi, ai, si⟩
    · exact Or.inl i2
    · refine Or.inr ⟨i2, σi, ki, vi, gi, ci.eq (hXc _ (by omega) (by omega) (by omega)) (hXc _ (by omega) (by omega) (by omega)) (hXc _ (by omega) (by omega) (by omega)), mi.c (hXc _ (by omega) (by omega) (by omega)), ?_, ?_⟩
      · obtain ⟨h1, h2, ⟨f, q1, q2, q3, q4⟩, r1, r2⟩ := ai
        exact ⟨h1, h2, ⟨f, q1, by rw [hXc 182 (by omega) (by omega) (by omega)]; exact q2, by rw [hXc 182 (by omega) (by omega) (by omega)]; exact q3, fun j hj => (q4 j hj).eq (hXc _ (by omega) (by omega) (by omega)) (hXc _ (by omega) (by omega) (by omega)) (hXc _ (by omega) (by omega) (by omega))⟩, by rw [hX3 _ (by omega)]; exact r1, fun j hj => (r2 j hj).c (hXc _ (by omega) (by omega) (by omega))⟩
      · obtain ⟨h1, h2, h3, h4, h5⟩ := si
        exact ⟨h1, h2, by rw [hXc 304 (by omega) (by omega) (by omega)]; exact h3, by rw [hX3 _ (by omega)]; exact h4, fun j hj k hk => by rw [hXc _ (by omega) (by omega) (by omega), hXc 336 (by omega) (by omega) (by omega)]; exact h5 j hj k hk⟩
  · obtain ⟨n, t1, t2, t3, t4⟩ := tpx
    exact ⟨n, t1, by rw [hXc 0 (by omega) (by omega) (by omega)]; exact t2, by rw [hX3 _ (by omega)]; exact t3, fun j hj => by rw [hXc 311 (by omega) (by omega) (by omega), hXc 1 (by omega) (by omega) (by omega)]; exact t4 j hj⟩
  · unfold Ctr
    rw [hX3 4 (by omega), hXc 0 (by omega) (by omega) (by omega), hXc 312 (by omega) (by omega) (by omega)]
    exact ctx
  · obtain ⟨m, q1, q2, q3⟩ := mvx
    exact ⟨m, by omega, by rw [hXc 43 (by omega) (by omega) (by omega)]; exact q2, fun s hs => by rw [hXc 49 (by omega) (by omega) (by omega)]; exact q3 s hs⟩
end SeeS
