/-! what acts leave as it was -/
def Kp2 (c j : Nat) : Prop := (c = 0 ∧ (j = 1 ∨ j = 2 ∨ j = 16)) ∨ (1 ≤ c ∧ c ≤ 14) ∨ c = 43 ∨ c = 49 ∨ (173 ≤ c ∧ c ≤ 309) ∨ (c = 310 ∧ (j = 2 ∨ j = 4 ∨ j = 13 ∨ j = 14 ∨ j = 15 ∨ j = 45 ∨ j = 48 ∨ j = 49 ∨ j = 50)) ∨ c = 311 ∨ c = 313 ∨ c = 315 ∨ (333 ≤ c ∧ c ≤ 336)
def Sm2 (I I' : gI) : Prop := ∀ c j, Kp2 c j → I' c j = I c j
theorem kp2_kp {c j : Nat} (h : Kp2 c j) : Kp c j := by unfold Kp2 at h; unfold Kp; omega
section Same2
variable {ν : Nt} {σ : St} {I I' I'' : gI}
theorem Sm2.rf : Sm2 I I := fun _ _ _ => rfl
theorem Sm2.tr (h : Sm2 I I') (h2 : Sm2 I' I'') : Sm2 I I'' := fun c j k => (h2 c j k).trans (h c j k)
theorem Sm2.sm (h : Sm I I') : Sm2 I I' := fun c j k => h c j (kp2_kp k)
theorem Sm2.fr {X : List Nat} (h : Fr X I I') (hX : ∀ c ∈ X, sc c ∨ (36 ≤ c ∧ c ≤ 38) ∨ (51 ≤ c ∧ c ≤ 172)) : Sm2 I I' := fun c j k => by
  rw [h c (fun hc => ?_)]
  rcases hX c hc with h1 | h1
  · exact sc_kp h1 (kp2_kp k)
  · unfold Kp2 at k; omega
theorem Sm2.u {a i : Nat} {v : Int32} (h : Sm2 I I') (hk : ¬ Kp2 a i) : Sm2 I (upd2 I' a i v) := fun c j k => by
  rw [u2_ne (fun e => hk (by rw [← e.1, ← e.2]; exact k))]
  exact h c j k
theorem Sm2.fs {b : Nat} (h : FS b I I') : Sm2 I I' := fun c j k => by
  by_cases e : c = 310
  · subst e; exact h.2.1 j (by unfold Kp2 at k; simp; omega)
  · rw [h.1 c (by unfold Kp2 at k; simp; omega)]
theorem NetC.sm2 (h : NetC ν I) (hs : Sm2 I I') : NetC ν I' := ⟨by rw [hs 2 0 (by unfold Kp2; omega)]; exact h.1, by rw [hs 2 1 (by unfold Kp2; omega)]; exact h.2.1, by rw [hs 2 2 (by unfold Kp2; omega)]; exact h.2.2.1, fun l hl j hj => by rw [hs _ _ (by unfold Kp2; omega)]; exact h.2.2.2.1 l hl j hj, fun t ht j hj => by rw [hs _ _ (by unfold Kp2; omega)]; exact h.2.2.2.2 t ht j hj⟩
theorem NetM.sm2 (h : NetM ν I) (hs : Sm2 I I') : NetM ν I' := ⟨by rw [hs 310 _ (by unfold Kp2; omega)]; exact h.1, by rw [hs 310 _ (by unfold Kp2; omega)]; exact h.2.1, by rw [hs 310 _ (by unfold Kp2; omega)]; exact h.2.2.1, fun l hl j hj => by rw [hs 313 _ (by unfold Kp2; omega)]; exact h.2.2.2.1 l hl j hj, fun t ht j hj => by rw [hs 315 _ (by unfold Kp2; omega)]; exact h.2.2.2.2 t ht j hj⟩
theorem CS.sm2 {u : Nat} (h : CS ν u σ I) (hs : Sm2 I I') (hu : 173 ≤ u ∧ u ≤ 307) : CS ν u σ I' := ⟨by rw [hs u 2 (by unfold Kp2; omega)]; exact h.1, fun t ht => by rw [hs (u + 1) t (by unfold Kp2; omega), hs (u + 2) t (by unfold Kp2; omega)]; exact h.2 t ht⟩
theorem MS.sm2 {r b : Nat} (hn : WfN ν) (hw : WfW ν σ) (h : MS ν r b σ I) (hs : Sm2 I I') (hr : 333 ≤ r ∧ r ≤ 336) : MS ν r b σ I' := by
  have htn := hn.2.2.2.1
  refine ⟨by rw [hs r b (by unfold Kp2; omega)]; exact h.1, fun t ht => ?_⟩
  have hwt := (hw t ht).2.1
  exact ⟨by rw [hs r _ (by unfold Kp2; omega)]; exact (h.2 t ht).1, by rw [hs r _ (by unfold Kp2; omega)]; exact (h.2 t ht).2.1, fun k hk => by rw [hs r _ (by unfold Kp2; omega)]; exact (h.2 t ht).2.2 k hk⟩
theorem Acts.sm2 {A B r s : Nat} {ks : List St} (hn : WfN ν) (h : Acts ν A B r s ks I) (hs : Sm2 I I') (hA : A = 182 ∧ B = 184 ∧ r = 335 ∧ s = 49) : Acts ν A B r s ks I' := by
  obtain ⟨h1, h2, ⟨f, f1, f2, f3, f4⟩, r1, r2⟩ := h
  refine ⟨h1, h2, ⟨f, f1, by rw [hs A 1 (by unfold Kp2; omega)]; exact f2, by rw [hs A 2 (by unfold Kp2; omega)]; exact f3, fun j hj => (f4 j hj).sm2 hs (by omega)⟩, by rw [hs 310 s (by unfold Kp2; omega)]; exact r1, fun j hj => ?_⟩
  exact MS.sm2 hn ((h2 _ (List.getElem_mem hj)).wf hn) (r2 j hj) hs (by omega)
theorem Sght.sm2 {A r s : Nat} {vs : List (Nat → Nat)} (h : Sght ν A r s vs I) (hs : Sm2 I I') (hA : (A = 173 ∧ r = 333 ∧ s = 45) ∨ (A = 304 ∧ r = 336 ∧ s = 50)) : Sght ν A r s vs I' := by
  obtain ⟨h1, h2, h3, h4, h5⟩ := h
  refine ⟨h1, h2, by rw [hs A 5 (by unfold Kp2; omega)]; exact h3, by rw [hs 310 s (by unfold Kp2; omega)]; exact h4, fun j hj k hk => ?_⟩
  rw [hs _ _ (by unfold Kp2; omega), hs r _ (by unfold Kp2; omega)]
  exact h5 j hj k hk
theorem Img.sm2 (hn : WfN ν) (h : Img ν I) (hs : Sm2 I I') : Img ν I' := by
  have e1 := hs 310 48 (by unfold Kp2; omega)
  have e2 := hs 0 16 (by unfold Kp2; omega)
  obtain ⟨h1, h2⟩ := h
  refine ⟨by rw [e1, e2]; exact h1, ?_⟩
  rw [e2]
  rcases h2 with h2 | ⟨h2, σ, ks, vs, g, c1, m1, a1, s1⟩
  · exact Or.inl h2
  · exact Or.inr ⟨h2, σ, ks, vs, g, c1.sm2 hs (by omega), MS.sm2 hn (g.wf hn) m1 hs (by omega), a1.sm2 hn hs (by omega), s1.sm2 hs (by omega)⟩
theorem Tp.sm2 (h : Tp I) (hs : Sm2 I I') : Tp I' := by
  obtain ⟨n, h1, h2, h3, h4⟩ := h
  refine ⟨n, h1, by rw [hs 0 1 (by unfold Kp2; omega)]; exact h2, by rw [hs 310 2 (by unfold Kp2; omega)]; exact h3, fun j hj => ?_⟩
  rw [hs 311 j (by unfold Kp2; omega), hs 1 j (by unfold Kp2; omega)]
  exact h4 j hj
theorem Mv.sm2 {c : Nat} (h : Mv c I) (hs : Sm2 I I') : Mv c I' := by
  obtain ⟨m, h1, h2, h3⟩ := h
  refine ⟨m, h1, by rw [hs 43 8 (by unfold Kp2; omega)]; exact h2, fun s hs' => ?_⟩
  rw [hs 49 s (by unfold Kp2; omega)]
  exact h3 s hs'
theorem MS.fr {r b : Nat} (hn : WfN ν) (hw : WfW ν σ) (h : MS ν r b σ I) (hs : ∀ j, b ≤ j → j < b + 82 → I' r j = I r j) : MS ν r b σ I' := by
  have htn := hn.2.2.2.1
  refine ⟨by rw [hs b (by omega) (by omega)]; exact h.1, fun t ht => ?_⟩
  have hwt := (hw t ht).2.1
  exact ⟨by rw [hs _ (by omega) (by omega)]; exact (h.2 t ht).1, by rw [hs _ (by omega) (by omega)]; exact (h.2 t ht).2.1, fun k hk => by rw [hs _ (by omega) (by omega)]; exact (h.2 t ht).2.2 k hk⟩
theorem CS.eq {u : Nat} (h : CS ν u σ I) (h0 : I' u = I u) (h1 : I' (u + 1) = I (u + 1)) (h2 : I' (u + 2) = I (u + 2)) : CS ν u σ I' := by unfold CS; rw [h0, h1, h2]; exact h
theorem Ring.fr {ks : List St} (h : Ring ν 51 53 ks I) (hf : ∀ c, 51 ≤ c → c ≤ 172 → I' c = I c) : Ring ν 51 53 ks I' := by
  obtain ⟨f, f1, f2, f3, f4⟩ := h
  refine ⟨f, f1, by rw [hf 51 (by omega) (by omega)]; exact f2, by rw [hf 51 (by omega) (by omega)]; exact f3, fun j hj => (f4 j hj).eq (hf _ (by omega) (by omega)) (hf _ (by omega) (by omega)) (hf _ (by omega) (by omega))⟩
theorem Rows.fr {ks : List St} (hn : WfN ν) (hg : ∀ k ∈ ks, Gd ν k) (h : Rows ν 318 25 ks I) (h1 : I' 318 = I 318) (h2 : I' 310 25 = I 310 25) : Rows ν 318 25 ks I' := ⟨by rw [h2]; exact h.1, fun j hj => MS.fr hn ((hg _ (List.getElem_mem hj)).wf hn) (h.2 j hj) (fun i _ _ => by rw [h1])⟩
/-- the parts that acts don't touch -/
def Oth (ν : Nt) (vs : List (Nat → Nat)) (I : gI) : Prop := NetC ν I ∧ NetM ν I ∧ Sght ν 173 333 45 vs I ∧ Img ν I ∧ Tp I
theorem Oth.sm {vs : List (Nat → Nat)} (hn : WfN ν) (h : Oth ν vs I) (hs : Sm2 I I') : Oth ν vs I' := ⟨h.1.sm2 hs, h.2.1.sm2 hs, h.2.2.1.sm2 hs (by omega), h.2.2.2.1.sm2 hn hs, h.2.2.2.2.sm2 hs⟩
end Same2
/-- a state is kept: of 40, the first falls out -/
def kpS (ks : List St) (σ : St) : List St := (if ks.length = 40 then ks.tail else ks) ++ [σ]
theorem kpS_len {ks : List St} {σ : St} (h : ks.length ≤ 40) : (kpS ks σ).length = (if ks.length = 40 then 39 else ks.length) + 1 ∧ (kpS ks σ).length ≤ 40 := by
  unfold kpS
  rw [List.length_append]
  split
  · rw [List.length_tail]; simp; omega
  · simp; omega
section Keep
variable {ν : Nt} {σ : St} {N : Nat}
theorem c_copy {I : gI} {u w : Nat} (hn : WfN ν) (hN : 100 ≤ N) (h : u + 2 < w ∨ w + 2 < u) (hs : CS ν w σ I) : ∃ I', mX8_copyFrom N u w I = some I' ∧ Fr [u, u + 1, u + 2] I I' ∧ CS ν u σ I' := by
  have htn := hn.2.2.2.1
  obtain ⟨I', hP, e⟩ := loopP (F := fun n s i => mX8_copyFrom_2 u w n i s) (b := 9) (out := id)
    (P := fun k s => Fr [u, u + 1, u + 2] I s ∧ s u = I u ∧ ∀ t, t < k → s (u + 1) t = I (w + 1) t ∧ s (u + 2) t = I (w + 2) t)
    (fun n s _ => by
      show mX8_copyFrom_2 u w (n + 1) (nI 9) s = some s
      rw [mX8_copyFrom_2, if_pos (by decide)])
    (fun n k s hk hP => by
      have e1 : s (w + 1) = I (w + 1) := hP.1 _ (by simp; omega)
      have e2 : s (w + 2) = I (w + 2) := hP.1 _ (by simp; omega)
      refine ⟨upd2 (upd2 s (u + 1) k (I (w + 1) k)) (u + 2) k (I (w + 2) k), ?_, (hP.1.u2 (by simp)).u2 (by simp), by rw [u2_c (by omega), u2_c (by omega)]; exact hP.2.1, fun t ht => ?_⟩
      · show mX8_copyFrom_2 u w (n + 1) (nI k) s = mX8_copyFrom_2 u w n (nI (k + 1)) _
        rw [mX8_copyFrom_2, show (9 : Int32) = nI 9 from rfl, if_neg (nI_ge hk (by omega)), ck_n (by omega) (by decide), nI_clamp (by omega), nm_n, nm_n, nI_1, e1, u2_c (by omega), e2]
      · by_cases h9 : t = k
        · subst h9; rw [u2_at, u2_c (by omega), u2_at]; exact ⟨rfl, rfl⟩
        · rw [u2_ne (by omega), u2_ne (by omega), u2_ne (by omega), u2_ne (by omega)]; exact hP.2.2 t (by omega))
    N 0 I (Nat.zero_le _) (by omega) ⟨Fr.rf, rfl, fun t h => by omega⟩
  have e3 : I' w = I w := hP.1 _ (by simp; omega)
  refine ⟨upd2 I' u 2 (I w 2), ?_, hP.1.u2 (by simp), u2_at.trans hs.1, fun t ht => ?_⟩
  · unfold mX8_copyFrom
    rw [show mX8_copyFrom_2 u w N 0 I = some I' from e, ob_some, e3]
  · rw [u2_c (by omega), u2_c (by omega), (hP.2.2 t (by omega)).1, (hP.2.2 t (by omega)).2]
    exact hs.2 t ht
theorem r40 : ∀ n, n < 80 → nI n - nI n / 40 * 40 = nI (n % 40) := by decide +kernel
theorem c_keep {I : gI} {ks : List St} (hn : WfN ν) (hN : 100 ≤ N) (hk : ks.length ≤ 40) (hr : Ring ν 51 53 ks I) (hs : CS ν 36 σ I) : ∃ I', mX0_keep N 36 I = some I' ∧ Ring ν 51 53 (kpS ks σ) I' ∧ CS ν 36 σ I' ∧ ∀ c, c < 51 ∨ 172 < c → I' c = I c := by
  obtain ⟨f, f1, f2, f3, f4⟩ := hr
  have e40 : (40 : Int32) = nI 40 := rfl
  obtain ⟨I1, g, m, ks1, e1, g1, g2, g3, g4, g5', g5, g6, g7⟩ : ∃ (I1 : gI) (g m : Nat) (ks1 : List St), (if (I 51 2) = 40 then (nm ((upd2 I 51 1 (((I 51 1) + 1) - ((I 51 1) + 1) / 40 * 40)) 51 2) (fun x3 => nm (upd2 (upd2 I 51 1 (((I 51 1) + 1) - ((I 51 1) + 1) / 40 * 40)) 51 2 (x3 - 1)) (fun I5 => some I5))) else (some I) : Option gI) = some I1 ∧ g < 40 ∧ m < 40 ∧ ks1.length = m ∧ I1 51 1 = nI g ∧ I1 51 2 = nI m ∧ kpS ks σ = ks1 ++ [σ] ∧ Fr [51] I I1 ∧ ∀ j, (hj : j < ks1.length) → CS ν (53 + 3 * ((g + j) % 40)) ks1[j] I := by
    by_cases h : ks.length = 40
    · have e0 : I 51 2 = 40 := by rw [f3, h]; rfl
      refine ⟨upd2 (upd2 I 51 1 (nI ((f + 1) % 40))) 51 2 (nI 39), (f + 1) % 40, 39, ks.tail, ?_, by omega, by omega, by rw [List.length_tail, h], by rw [u2_ne (by omega), u2_at], u2_at, by unfold kpS; rw [if_pos h], (Fr.rf.u2 (by simp)).u2 (by simp), fun j hj => ?_⟩
      · rw [if_pos e0, f2, nI_1, r40 _ (by omega), nm_n, nm_n, u2_ne (by omega), e0]
        rfl
      · rw [List.length_tail, h] at hj
        have h2 := f4 (j + 1) (by omega)
        rw [show ((f + 1) % 40 + j) % 40 = (f + (j + 1)) % 40 by omega, List.getElem_tail]
        exact h2
    · refine ⟨I, f, ks.length, ks, ?_, f1, by omega, rfl, f2, f3, by unfold kpS; rw [if_neg h], Fr.rf, f4⟩
      rw [if_neg]
      rw [f3, e40, nI_eq (by omega) (by omega)]
      exact h
  have hs1 : CS ν 36 σ I1 := hs.fr g6 (by simp) (by simp) (by simp)
  obtain ⟨I2, e2, f2', hs2⟩ := c_copy (N := N) (u := 53 + 3 * ((g + m) % 40)) (w := 36) hn hN (by omega) hs1
  have k51 : I2 51 = I1 51 := f2' 51 (by simp; omega)
  refine ⟨upd2 I2 51 2 (nI (m + 1)), ?_, ⟨g, g1, ?_, ?_, fun j hj => ?_⟩, ?_, fun c hc => ?_⟩
  · unfold mX0_keep
    rw [e1, ob_some, g4, g5', nI_add, r40 _ (by omega), nm_n, ck_n (by omega) (by decide), nI_clamp (by omega), e2, ob_some, k51, g5', nI_1]
  · rw [u2_ne (by omega), k51]; exact g4
  · rw [u2_at, g5, List.length_append, g3]; rfl
  · have hj' : j < m + 1 := by rw [g5, List.length_append, g3] at hj; exact hj
    by_cases h : j = m
    · subst h
      have : (kpS ks σ)[j] = σ := by simp only [g5]; rw [List.getElem_append_right (by omega)]; simp
      rw [this]
      exact hs2.eq (u2_c (by omega)) (u2_c (by omega)) (u2_c (by omega))
    · have : (kpS ks σ)[j] = ks1[j] := by simp only [g5]; rw [List.getElem_append_left (by omega)]
      rw [this]
      have hne : (g + j) % 40 ≠ (g + m) % 40 := by omega
      refine (g7 j (by omega)).eq ?_ ?_ ?_
      · rw [u2_c (by omega), f2' _ (by simp; omega), g6 _ (by simp; omega)]
      · rw [u2_c (by omega), f2' _ (by simp; omega), g6 _ (by simp; omega)]
      · rw [u2_c (by omega), f2' _ (by simp; omega), g6 _ (by simp; omega)]
  · exact ((hs.fr g6 (by simp) (by simp) (by simp)).fr f2' (by simp; omega) (by simp; omega) (by simp; omega)).eq (u2_c (by omega)) (u2_c (by omega)) (u2_c (by omega))
  · rw [u2_c (by omega), f2' c (by simp; omega), g6 c (by simp; omega)]
end Keep
