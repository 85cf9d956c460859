/-! undo -/
section Undo
variable {ν : Nt} {σ σ' : St} {ks ks' : List St} {vs : List (Nat → Nat)} {N c : Nat} {I I1 I2 : gI}
theorem act_fin2 (h : Pk ν σ ks vs I) (mv : Mv c I) (hi : ∀ c, 310 ≤ c → I1 c = I c) (s1 : Sm2 I I1) (z1 : I1 0 = I 0) (lo : ∀ c, c < 310 → I2 c = I1 c) (s2 : Sm2 I1 I2) (z2 : I2 312 = I1 312) (hg : Gd ν σ') (hl : ks'.length ≤ 40) (hk : ∀ k ∈ ks', Gd ν k) (cs : CS ν 36 σ' I1) (ms : MS ν 317 0 σ' I2) (rg : Ring ν 51 53 ks' I1) (rw' : Rows ν 318 25 ks' I2) : Inv (c + 1) I2 := by
  obtain ⟨hn, g, c1, m1, c2, m2, ac, sg, im, tp, ct⟩ := h
  have s12 := s1.tr s2
  refine ⟨⟨ν, σ', ks', vs, hn, hg, c1.sm2 s12, m1.sm2 s12, cs.eq (lo _ (by omega)) (lo _ (by omega)) (lo _ (by omega)), ms, ⟨hl, hk, rg.fr (fun c _ _ => lo c (by omega)), rw'⟩, sg.sm2 s12 (by omega), im.sm2 hn s12, tp.sm2 s12, ?_⟩, (mv.sm2 s12).up⟩
  have e0 : I2 0 = I 0 := (lo 0 (by omega)).trans z1
  have e3 : I2 312 = I 312 := z2.trans (hi 312 (by omega))
  refine ⟨?_, ?_, ?_, ?_⟩
  · rw [s12 310 4 (by unfold Kp2; omega), e0]; exact ct.1
  · rw [e3, e0]; exact ct.2.1
  · rw [e3, e0]; exact ct.2.2.1
  · rw [e3, e0]; exact ct.2.2.2
theorem m_u26 {m : Nat} (hm : m < 40) (h25 : I 310 25 = nI m) (hN : 4000 ≤ N) : ∃ I', mX11_undo_26 N 0 I = some I' ∧ (∀ c, c ≠ 317 → I' c = I c) ∧ ∀ i, i < 82 → I' 317 i = I 318 (82 * m + i) := by
  obtain ⟨I', hP, e⟩ := loopP (F := fun n s i => mX11_undo_26 n i s) (b := 82) (out := id)
    (P := fun k s => (∀ c, c ≠ 317 → s c = I c) ∧ ∀ i, i < k → s 317 i = I 318 (82 * m + i))
    (fun n s _ => by
      show mX11_undo_26 (n + 1) (nI 82) s = some s
      rw [mX11_undo_26, if_pos (by decide)])
    (fun n k s hk hP => by
      refine ⟨upd2 s 317 k (I 318 (82 * m + k)), ?_, fun c hc => by rw [u2_c hc]; exact hP.1 c hc, fun i hi => ?_⟩
      · show mX11_undo_26 (n + 1) (nI k) s = mX11_undo_26 n (nI (k + 1)) _
        rw [mX11_undo_26, show (82 : Int32) = nI 82 from rfl, if_neg (nI_ge hk (by omega)), hP.1 310 (by decide), h25, nI_mul, nI_add, ck_n (by omega) (by decide), ck_n (by omega) (by decide), nI_clamp (by omega), nI_clamp (by omega), hP.1 318 (by decide), nm_n, nI_1]
      · by_cases h : i = k
        · subst h; exact u2_at
        · rw [u2_ne (by omega)]; exact hP.2 i (by omega))
    N 0 I (by omega) (by omega) ⟨fun _ _ => rfl, fun i h => by omega⟩
  exact ⟨I', e, hP.1, hP.2⟩
theorem s_undo (hN : 100000000000 ≤ N) : St_undo N Inv := by
  intro c I J hc hInv
  obtain ⟨⟨ν, σ, ks, vs, hP⟩, mv⟩ := id hInv
  obtain ⟨hn, g, c1, m1, c2, m2, ac, sg, im, tp, ct⟩ := id hP
  have s0 : ∀ {K : gI}, Sm K (upd2 K 310 0 0) := Sm.rf.u0
  obtain ⟨h40, hgk, ⟨f, f1, f2, f3, f4⟩, r1, r2⟩ := id ac
  by_cases h0 : ks.length = 0
  · refine ⟨-1, I, upd2 I 310 0 0, ?_, ?_, hInv.sm s0⟩
    · unfold mX10_undo
      rw [f3, h0, if_pos (by decide)]
    · unfold mX11_undo
      rw [u2_ne (by omega), r1, h0, if_pos (by decide)]
  · obtain ⟨m, hm⟩ : ∃ m, ks.length = m + 1 := ⟨ks.length - 1, by omega⟩
    have hmk : m < ks.length := by omega
    have hsub : nI (m + 1) - 1 = nI m := by rw [show (1 : Int32) = nI 1 from rfl, nI_sub (by omega)]; rfl
    obtain ⟨Ia, hIa⟩ : ∃ Ia, Ia = upd2 I 51 2 (nI m) := ⟨_, rfl⟩
    have hcs : CS ν (53 + 3 * ((f + m) % 40)) ks[m] Ia := by
      rw [hIa]
      exact (f4 m hmk).eq (u2_c (by omega)) (u2_c (by omega)) (u2_c (by omega))
    obtain ⟨I1, e1, fr1, cs1⟩ := c_copy (N := N) (u := 36) (w := 53 + 3 * ((f + m) % 40)) hn (by omega) (by omega) hcs
    have f1' : ∀ c, c ≠ 51 → c ∉ [36, 36 + 1, 36 + 2] → I1 c = I c := fun c h1 h2 => by rw [fr1 c h2, hIa, u2_c h1]
    have k51 : I1 51 = Ia 51 := fr1 51 (by simp)
    have hi : ∀ c, 310 ≤ c → I1 c = I c := fun c hc => f1' c (by omega) (by simp; omega)
    have s1 : Sm2 I I1 := by
      intro c j k
      have k' := k
      unfold Kp2 at k'
      rw [f1' c (by omega) (by simp; omega)]
    have hM1 : NetM ν I1 := m1.sm2 s1
    obtain ⟨Ib, hIb⟩ : ∃ Ib, Ib = upd2 (upd2 I1 310 0 0) 310 25 (nI m) := ⟨_, rfl⟩
    obtain ⟨I2, e2, f2', d2⟩ := m_u26 (N := N) (I := Ib) (m := m) (by omega) (by rw [hIb, u2_at]) (by omega)
    have b318 : Ib 318 = I 318 := by rw [hIb, u2_c (by decide), u2_c (by decide), hi 318 (by omega)]
    have hlo : ∀ c, c < 310 → I2 c = I1 c := fun c hc => by rw [f2' c (by omega), hIb, u2_c (by omega), u2_c (by omega)]
    have hgm := hgk _ (List.getElem_mem hmk)
    have htk : (ks.take m).length = m := by rw [List.length_take]; omega
    refine ⟨nI m, I1, I2, ?_, ?_, act_fin2 (σ' := ks[m]) (ks' := ks.take m) hP mv hi s1 (f1' 0 (by omega) (by simp)) hlo ?_ ?_ hgm (by omega) (fun k hk => hgk k (List.mem_of_mem_take hk)) cs1 ?_ ?_ ?_⟩
    · unfold mX10_undo mX0_takeBack
      rw [f3, hm, if_neg (nI_ne0 (by omega) (by omega)), if_neg (show ¬ nI (m + 1) ≤ 0 from nI_ge (Nat.succ_pos m) (by omega)), hsub, ← hIa, show Ia 51 1 = nI f by rw [hIa, u2_ne (by omega), f2], show Ia 51 2 = nI m by rw [hIa, u2_at], nI_add, nm_n, r40 _ (by omega), ck_n (by omega) (by decide), nI_clamp (by omega), e1, ob_some, ob_some, k51, hIa, u2_at]
    · have e25 : (upd2 I1 310 0 0) 310 25 = nI (m + 1) := by rw [u2_ne (by omega), hi 310 (by omega), r1, hm]
      unfold mX11_undo
      rw [e25, if_neg (nI_ne0 (by omega) (by omega)), hsub, ← hIb, e2, ob_some, f2' 310 (by decide), hIb, u2_at]
    · intro c j k
      by_cases h310 : c = 310
      · subst h310
        rw [f2' 310 (by decide), hIb, u2_ne (by unfold Kp2 at k; omega), u2_ne (by unfold Kp2 at k; omega)]
      · rw [f2' c (by unfold Kp2 at k; omega), hIb, u2_c h310, u2_c h310]
    · rw [f2' 312 (by decide), hIb, u2_c (by decide), u2_c (by decide)]
    · exact MS.mv hn (hgm.wf hn) (r2 m hmk) (fun i hi => by rw [Nat.zero_add, d2 i hi, b318])
    · refine ⟨f, f1, by rw [k51, hIa, u2_ne (by omega), f2], by rw [k51, hIa, u2_at, htk], fun j hj => ?_⟩
      rw [htk] at hj
      rw [List.getElem_take]
      have hne : (f + j) % 40 ≠ (f + m) % 40 := by omega
      exact (f4 j (by omega)).eq (f1' _ (by omega) (by simp; omega)) (f1' _ (by omega) (by simp; omega)) (f1' _ (by omega) (by simp; omega))
    · refine ⟨by rw [f2' 310 (by decide), hIb, u2_at, htk], fun j hj => ?_⟩
      rw [htk] at hj
      rw [List.getElem_take]
      exact (r2 j (by omega)).c (by rw [f2' 318 (by decide), b318])
end Undo
