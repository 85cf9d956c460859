/-! the reference keeps a state, tries one -/
section MKeep
variable {ν : Nt} {σ : St} {N : Nat}
theorem MS.mv {r b r' b' : Nat} {I I' : gI} (hn : WfN ν) (hw : WfW ν σ) (h : MS ν r b σ I) (hs : ∀ i, i < 82 → I' r' (b' + i) = I r (b + i)) : MS ν r' b' σ I' := by
  have htn := hn.2.2.2.1
  refine ⟨by have := hs 0 (by omega); rw [Nat.add_zero, Nat.add_zero] at this; rw [this]; exact h.1, fun t ht => ?_⟩
  have hwt := (hw t ht).2.1
  refine ⟨?_, ?_, fun k hk => ?_⟩
  · have e := hs (1 + t) (by omega)
    rw [← Nat.add_assoc, ← Nat.add_assoc] at e
    rw [e]; exact (h.2 t ht).1
  · have e := hs (10 + t) (by omega)
    rw [← Nat.add_assoc, ← Nat.add_assoc] at e
    rw [e]; exact (h.2 t ht).2.1
  · have e := hs (19 + 7 * t + k) (by omega)
    rw [show b' + (19 + 7 * t + k) = b' + 19 + 7 * t + k by omega, show b + (19 + 7 * t + k) = b + 19 + 7 * t + k by omega] at e
    rw [e]; exact (h.2 t ht).2.2 k hk
theorem m_k12 {I : gI} (hN : 4000 ≤ N) : ∃ I', mX11_keeps_12 N 82 I = some I' ∧ (∀ c, c ≠ 318 → I' c = I c) ∧ ∀ j, j + 82 < 3280 → I' 318 j = I 318 (j + 82) := by
  obtain ⟨I', hP, e⟩ := loopP (F := fun n s i => mX11_keeps_12 n i s) (b := 3280) (out := id)
    (P := fun k s => 82 ≤ k ∧ (∀ c, c ≠ 318 → s c = I c) ∧ ∀ j, s 318 j = if j + 82 < k then I 318 (j + 82) else I 318 j)
    (fun n s _ => by
      show mX11_keeps_12 (n + 1) (nI 3280) s = some s
      rw [mX11_keeps_12, if_pos (by decide)])
    (fun n k s hk hP => by
      refine ⟨upd2 s 318 (k - 82) (I 318 k), ?_, by omega, fun c hc => by rw [u2_c hc]; exact hP.2.1 c hc, fun j => ?_⟩
      · show mX11_keeps_12 (n + 1) (nI k) s = mX11_keeps_12 n (nI (k + 1)) _
        rw [mX11_keeps_12, show (3280 : Int32) = nI 3280 from rfl, if_neg (nI_ge hk (by omega)), ck_n (by omega) (by decide), show (82 : Int32) = nI 82 from rfl, nI_sub hP.1, ck_n (by omega) (by decide), nI_clamp (by omega), nI_clamp (by omega), hP.2.2 k, if_neg (by omega), nI_1]
      · by_cases h : j = k - 82
        · subst h; rw [u2_at, if_pos (by omega)]; congr 1; omega
        · rw [u2_ne (by omega), hP.2.2 j]
          by_cases h2 : j + 82 < k
          · rw [if_pos h2, if_pos (by omega)]
          · rw [if_neg h2, if_neg (by omega)])
    N 82 I (by omega) (by omega) ⟨by omega, fun _ _ => rfl, fun j => by rw [if_neg (by omega)]⟩
  exact ⟨I', e, hP.2.1, fun j hj => by rw [hP.2.2 j, if_pos hj]⟩
theorem m_k52 {I : gI} {m : Nat} (hm : m < 40) (h25 : I 310 25 = nI m) (hN : 4000 ≤ N) : ∃ I', mX11_keeps_52 N 0 I = some I' ∧ (∀ c, c ≠ 318 → I' c = I c) ∧ (∀ j, j < 82 * m → I' 318 j = I 318 j) ∧ ∀ i, i < 82 → I' 318 (82 * m + i) = I 317 i := by
  obtain ⟨I', hP, e⟩ := loopP (F := fun n s i => mX11_keeps_52 n i s) (b := 82) (out := id)
    (P := fun k s => (∀ c, c ≠ 318 → s c = I c) ∧ (∀ j, j < 82 * m → s 318 j = I 318 j) ∧ ∀ i, i < k → s 318 (82 * m + i) = I 317 i)
    (fun n s _ => by
      show mX11_keeps_52 (n + 1) (nI 82) s = some s
      rw [mX11_keeps_52, if_pos (by decide)])
    (fun n k s hk hP => by
      refine ⟨upd2 s 318 (82 * m + k) (I 317 k), ?_, fun c hc => by rw [u2_c hc]; exact hP.1 c hc, fun j hj => by rw [u2_ne (by omega)]; exact hP.2.1 j hj, fun i hi => ?_⟩
      · show mX11_keeps_52 (n + 1) (nI k) s = mX11_keeps_52 n (nI (k + 1)) _
        rw [mX11_keeps_52, show (82 : Int32) = nI 82 from rfl, if_neg (nI_ge hk (by omega)), hP.1 310 (by decide), h25, nI_mul, nI_add, ck_n (by omega) (by decide), ck_n (by omega) (by decide), nI_clamp (by omega), nI_clamp (by omega), hP.1 317 (by decide), nm_n, nI_1]
      · by_cases h : i = k
        · subst h; exact u2_at
        · rw [u2_ne (by omega)]; exact hP.2.2 i (by omega))
    N 0 I (by omega) (by omega) ⟨fun _ _ => rfl, fun j _ => rfl, fun i h => by omega⟩
  exact ⟨I', e, hP.1, hP.2.1, hP.2.2⟩
theorem m_keep {I : gI} {ks : List St} (hn : WfN ν) (hN : 4000 ≤ N) (hk : ks.length ≤ 40) (hg : ∀ k ∈ ks, Gd ν k) (hr : Rows ν 318 25 ks I) (hw : WfW ν σ) (hs : MS ν 317 0 σ I) : ∃ I', mX11_keeps N I = some I' ∧ Rows ν 318 25 (kpS ks σ) I' ∧ (∀ c, c ≠ 318 → c ≠ 310 → I' c = I c) ∧ ∀ j, j ≠ 25 → I' 310 j = I 310 j := by
  have e40 : (40 : Int32) = nI 40 := rfl
  obtain ⟨I1, m, ks1, e1, g1, g2, g3, g4, g5, g6, g7⟩ : ∃ (I1 : gI) (m : Nat) (ks1 : List St), (if (I 310 25) = 40 then (Option.bind (mX11_keeps_12 N 82 I) (fun I6 => some (upd2 I6 310 25 ((I6 310 25) - 1)))) else (some I) : Option (gI)) = some I1 ∧ m < 40 ∧ ks1.length = m ∧ I1 310 25 = nI m ∧ kpS ks σ = ks1 ++ [σ] ∧ (∀ c, c ≠ 318 → c ≠ 310 → I1 c = I c) ∧ (∀ j, j ≠ 25 → I1 310 j = I 310 j) ∧ ∀ j, (hj : j < ks1.length) → MS ν 318 (82 * j) ks1[j] I1 := by
    by_cases h : ks.length = 40
    · have e0 : I 310 25 = 40 := by rw [hr.1, h]; rfl
      obtain ⟨I6, e6, f6, d6⟩ := m_k12 (I := I) hN
      refine ⟨upd2 I6 310 25 (nI 39), 39, ks.tail, ?_, by omega, by rw [List.length_tail, h], u2_at, by unfold kpS; rw [if_pos h], fun c h1 h2 => by rw [u2_c h2, f6 c h1], fun j hj => by rw [u2_ne (by omega), f6 310 (by decide)], fun j hj => ?_⟩
      · rw [if_pos e0, e6, ob_some, f6 310 (by decide), e0]
        rfl
      · rw [List.length_tail, h] at hj
        rw [List.getElem_tail]
        refine MS.mv hn ((hg _ (List.getElem_mem (by omega))).wf hn) (hr.2 (j + 1) (by omega)) (fun i hi => ?_)
        rw [u2_c (by decide), d6 _ (by omega)]
        congr 1
        omega
    · refine ⟨I, ks.length, ks, ?_, by omega, rfl, hr.1, by unfold kpS; rw [if_neg h], fun _ _ _ => rfl, fun _ _ => rfl, hr.2⟩
      rw [if_neg]
      rw [hr.1, e40, nI_eq (by omega) (by omega)]
      exact h
  obtain ⟨I2, e2, f2, d2, d3⟩ := m_k52 (I := I1) g1 g3 hN
  have hg1 : ∀ k ∈ ks1, Gd ν k := by
    intro k hk
    have : k ∈ kpS ks σ := by rw [g4]; exact List.mem_append_left _ hk
    by_cases h : ks.length = 40
    · have e : ks1 = ks.tail := by
        have := g4
        unfold kpS at this
        rw [if_pos h] at this
        exact (List.append_cancel_right this).symm
      rw [e] at hk
      exact hg k (List.mem_of_mem_tail hk)
    · have e : ks1 = ks := by
        have := g4
        unfold kpS at this
        rw [if_neg h] at this
        exact (List.append_cancel_right this).symm
      rw [e] at hk
      exact hg k hk
  refine ⟨upd2 I2 310 25 (nI (m + 1)), ?_, ⟨?_, fun j hj => ?_⟩, fun c h1 h2 => ?_, fun j hj => ?_⟩
  · unfold mX11_keeps
    rw [e1, ob_some, e2, ob_some, f2 310 (by decide), g3, nI_1]
  · rw [u2_at, g4, List.length_append, g2]; rfl
  · have hj' : j < m + 1 := by rw [g4, List.length_append, g2] at hj; exact hj
    by_cases h : j = m
    · subst h
      have : (kpS ks σ)[j] = σ := by simp only [g4]; rw [List.getElem_append_right (by omega)]; simp
      rw [this]
      exact MS.mv hn hw hs (fun i hi => by rw [u2_c (by decide), d3 i hi, g5 317 (by decide) (by decide), Nat.zero_add])
    · have : (kpS ks σ)[j] = ks1[j] := by simp only [g4]; rw [List.getElem_append_left (by omega)]
      rw [this]
      exact MS.mv hn ((hg1 _ (List.getElem_mem (by omega))).wf hn) (g7 j (by omega)) (fun i hi => by rw [u2_c (by decide), d2 _ (by omega)])
  · rw [u2_c h2, f2 c h1, g5 c h1 h2]
  · rw [u2_ne (by omega), f2 310 (by decide), g6 j hj]
theorem m_tries {I : gI} (hn : WfN ν) (hw : WfW ν σ) (hN : 4000 ≤ N) (hs : MS ν 317 0 σ I) : ∃ I', mX11_tries N I = some I' ∧ FS 82 I I' ∧ I' 310 = I 310 ∧ MS ν 317 82 σ I' := by
  obtain ⟨I', hP, e⟩ := loopP (F := fun n s i => mX11_tries_2 n i s) (b := 82) (out := id)
    (P := fun k s => FS 82 I s ∧ s 310 = I 310 ∧ ∀ i, i < k → s 317 (82 + i) = I 317 i)
    (fun n s _ => by
      show mX11_tries_2 (n + 1) (nI 82) s = some s
      rw [mX11_tries_2, if_pos (by decide)])
    (fun n k s hk hP => by
      refine ⟨upd2 s 317 (82 + k) (I 317 k), ?_, hP.1.u (by omega) (by omega), by rw [u2_c (by decide)]; exact hP.2.1, fun i hi => ?_⟩
      · show mX11_tries_2 (n + 1) (nI k) s = mX11_tries_2 n (nI (k + 1)) _
        rw [mX11_tries_2, show (82 : Int32) = nI 82 from rfl, if_neg (nI_ge hk (by omega)), ck_n (by omega) (by decide), nI_add, ck_n (by omega) (by decide), nI_clamp (by omega), nI_clamp (by omega), hP.1.2.2 k (by omega), nI_1]
      · by_cases h : i = k
        · subst h; exact u2_at
        · rw [u2_ne (by omega)]; exact hP.2.2 i (by omega))
    N 0 I (by omega) (by omega) ⟨FS.rf, rfl, fun i h => by omega⟩
  refine ⟨I', ?_, hP.1, hP.2.1, MS.mv hn hw hs (fun i hi => by rw [hP.2.2 i hi, Nat.zero_add])⟩
  unfold mX11_tries
  rw [show mX11_tries_2 N 0 I = some I' from e, ob_some]
end MKeep
