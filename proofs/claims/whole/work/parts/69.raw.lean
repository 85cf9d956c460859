/-! image, restore -/
section Raw
variable {ν : Nt} {σ : St} {N : Nat}
/-- three cells as three others -/
def Cp (u w : Nat) (I I' : gI) : Prop := I' u 2 = I w 2 ∧ ∀ t, t < 9 → I' (u + 1) t = I (w + 1) t ∧ I' (u + 2) t = I (w + 2) t
theorem CS.cp {I I' : gI} {u w : Nat} (hn : WfN ν) (h : CS ν w σ I) (hc : Cp u w I I') : CS ν u σ I' := ⟨hc.1.trans h.1, fun t ht => by have := hn.2.2.2.1; rw [(hc.2 t (by omega)).1, (hc.2 t (by omega)).2]; exact h.2 t ht⟩
theorem c_cpR {I : gI} {u w : Nat} (hN : 100 ≤ N) (h : u + 2 < w ∨ w + 2 < u) : ∃ I', mX8_copyFrom N u w I = some I' ∧ Fr [u, u + 1, u + 2] I I' ∧ Cp u w I I' := by
  obtain ⟨I', hP, e⟩ := loopP (F := fun n s i => mX8_copyFrom_2 u w n i s) (b := 9) (out := id)
    (P := fun k s => Fr [u, u + 1, u + 2] I s ∧ s u = I u ∧ ∀ t, t < k → s (u + 1) t = I (w + 1) t ∧ s (u + 2) t = I (w + 2) t)
    (fun n s _ => by
      show mX8_copyFrom_2 u w (n + 1) (nI 9) s = some s
      rw [mX8_copyFrom_2, if_pos (by decide)])
    (fun n k s hk hP => by
      have e1 : s (w + 1) = I (w + 1) := hP.1 _ (by simp; omega)
      have e2 : s (w + 2) = I (w + 2) := hP.1 _ (by simp; omega)
      refine ⟨upd2 (upd2 s (u + 1) k (I (w + 1) k)) (u + 2) k (I (w + 2) k), ?_, (hP.1.u2 (by simp)).u2 (by simp), by rw [u2_c (by omega), u2_c (by omega)]; exact hP.2.1, fun t ht => ?_⟩
      · show mX8_copyFrom_2 u w (n + 1) (nI k) s = mX8_copyFrom_2 u w n (nI (k + 1)) _
        rw [mX8_copyFrom_2, show (9 : Int32) = nI 9 from rfl, if_neg (nI_ge hk (by omega)), ck_n (by omega) (by decide), nI_clamp (by omega), nm_n, nm_n, nI_1, e1, u2_c (by omega), e2]
      · by_cases h9 : t = k
        · subst h9; rw [u2_at, u2_c (by omega), u2_at]; exact ⟨rfl, rfl⟩
        · rw [u2_ne (by omega), u2_ne (by omega), u2_ne (by omega), u2_ne (by omega)]; exact hP.2.2 t (by omega))
    N 0 I (Nat.zero_le _) (by omega) ⟨Fr.rf, rfl, fun t h => by omega⟩
  have e3 : I' w = I w := hP.1 _ (by simp; omega)
  refine ⟨upd2 I' u 2 (I w 2), ?_, hP.1.u2 (by simp), u2_at, fun t ht => ?_⟩
  · unfold mX8_copyFrom
    rw [show mX8_copyFrom_2 u w N 0 I = some I' from e, ob_some, e3]
  · rw [u2_c (by omega), u2_c (by omega)]; exact hP.2.2 t ht
theorem c_ring_182 {I : gI} {ks : List St} (hn : WfN ν) (hN : 100 ≤ N) (hr : Ring ν 51 53 ks I) : ∃ I', mX0_copyFrom_182_51 N I = some I' ∧ Ring ν 182 184 ks I' ∧ ∀ c, c ≠ 182 → (c < 184 ∨ 303 < c) → I' c = I c := by
  obtain ⟨f, f1, f2, f3, f4⟩ := hr
  obtain ⟨I0, hI0⟩ : ∃ I0, I0 = upd2 (upd2 I 182 1 (I 51 1)) 182 2 (I 51 2) := ⟨_, rfl⟩
  have k0 : ∀ c, c ≠ 182 → I0 c = I c := fun c hc => by rw [hI0, u2_c hc, u2_c hc]
  obtain ⟨I', hP, e⟩ := loopP (F := fun n s i => mX0_copyFrom_182_51_18 N n i s) (b := 40) (out := id)
    (P := fun k s => (∀ c, c < 184 ∨ 303 < c → s c = I0 c) ∧ ∀ j, j < k → Cp (184 + 3 * j) (53 + 3 * j) I0 s)
    (fun n s _ => by
      show mX0_copyFrom_182_51_18 N (n + 1) (nI 40) s = some s
      rw [mX0_copyFrom_182_51_18, if_pos (by decide)])
    (fun n k s hk hP => by
      obtain ⟨s', e', fr', cp'⟩ := c_cpR (N := N) (I := s) (u := 184 + 3 * k) (w := 53 + 3 * k) hN (by omega)
      refine ⟨s', ?_, fun c hc => by rw [fr' c (by simp; omega)]; exact hP.1 c hc, fun j hj => ?_⟩
      · show mX0_copyFrom_182_51_18 N (n + 1) (nI k) s = mX0_copyFrom_182_51_18 N n (nI (k + 1)) _
        rw [mX0_copyFrom_182_51_18, show (40 : Int32) = nI 40 from rfl, if_neg (nI_ge hk (by omega)), ck_n (by omega) (by decide), nI_clamp (by omega), e', ob_some, nI_1]
      · by_cases h : j = k
        · subst h
          unfold Cp at cp' ⊢
          rw [hP.1 (53 + 3 * j) (by omega), hP.1 (53 + 3 * j + 1) (by omega), hP.1 (53 + 3 * j + 2) (by omega)] at cp'
          exact cp'
        · have := hP.2 j (by omega)
          unfold Cp at this ⊢
          rw [fr' (184 + 3 * j) (by simp; omega), fr' (184 + 3 * j + 1) (by simp; omega), fr' (184 + 3 * j + 2) (by simp; omega)]
          exact this)
    N 0 I0 (Nat.zero_le _) (by omega) ⟨fun _ _ => rfl, fun j h => by omega⟩
  have k1 : I' 182 = I0 182 := hP.1 182 (by omega)
  refine ⟨I', ?_, ⟨f, f1, by rw [k1, hI0, u2_ne (by omega), u2_at, f2], by rw [k1, hI0, u2_at, f3], fun j hj => ?_⟩, fun c h1 h2 => by rw [hP.1 c h2, k0 c h1]⟩
  · unfold mX0_copyFrom_182_51
    rw [u2_c (by decide), ← hI0, show mX0_copyFrom_182_51_18 N N 0 I0 = some I' from e, ob_some]
  · have h1 : CS ν (53 + 3 * ((f + j) % 40)) ks[j] I0 := (f4 j hj).eq (k0 _ (by omega)) (k0 _ (by omega)) (k0 _ (by omega))
    exact h1.cp hn (hP.2 _ (by omega))
theorem c_ring_51 {I : gI} {ks : List St} (hn : WfN ν) (hN : 100 ≤ N) (hr : Ring ν 182 184 ks I) : ∃ I', mX0_copyFrom_51_182 N I = some I' ∧ Ring ν 51 53 ks I' ∧ ∀ c, c ≠ 51 → (c < 53 ∨ 172 < c) → I' c = I c := by
  obtain ⟨f, f1, f2, f3, f4⟩ := hr
  obtain ⟨I0, hI0⟩ : ∃ I0, I0 = upd2 (upd2 I 51 1 (I 182 1)) 51 2 (I 182 2) := ⟨_, rfl⟩
  have k0 : ∀ c, c ≠ 51 → I0 c = I c := fun c hc => by rw [hI0, u2_c hc, u2_c hc]
  obtain ⟨I', hP, e⟩ := loopP (F := fun n s i => mX0_copyFrom_51_182_18 N n i s) (b := 40) (out := id)
    (P := fun k s => (∀ c, c < 53 ∨ 172 < c → s c = I0 c) ∧ ∀ j, j < k → Cp (53 + 3 * j) (184 + 3 * j) I0 s)
    (fun n s _ => by
      show mX0_copyFrom_51_182_18 N (n + 1) (nI 40) s = some s
      rw [mX0_copyFrom_51_182_18, if_pos (by decide)])
    (fun n k s hk hP => by
      obtain ⟨s', e', fr', cp'⟩ := c_cpR (N := N) (I := s) (u := 53 + 3 * k) (w := 184 + 3 * k) hN (by omega)
      refine ⟨s', ?_, fun c hc => by rw [fr' c (by simp; omega)]; exact hP.1 c hc, fun j hj => ?_⟩
      · show mX0_copyFrom_51_182_18 N (n + 1) (nI k) s = mX0_copyFrom_51_182_18 N n (nI (k + 1)) _
        rw [mX0_copyFrom_51_182_18, show (40 : Int32) = nI 40 from rfl, if_neg (nI_ge hk (by omega)), ck_n (by omega) (by decide), nI_clamp (by omega), e', ob_some, nI_1]
      · by_cases h : j = k
        · subst h
          unfold Cp at cp' ⊢
          rw [hP.1 (184 + 3 * j) (by omega), hP.1 (184 + 3 * j + 1) (by omega), hP.1 (184 + 3 * j + 2) (by omega)] at cp'
          exact cp'
        · have := hP.2 j (by omega)
          unfold Cp at this ⊢
          rw [fr' (53 + 3 * j) (by simp; omega), fr' (53 + 3 * j + 1) (by simp; omega), fr' (53 + 3 * j + 2) (by simp; omega)]
          exact this)
    N 0 I0 (Nat.zero_le _) (by omega) ⟨fun _ _ => rfl, fun j h => by omega⟩
  have k1 : I' 51 = I0 51 := hP.1 51 (by omega)
  refine ⟨I', ?_, ⟨f, f1, by rw [k1, hI0, u2_ne (by omega), u2_at, f2], by rw [k1, hI0, u2_at, f3], fun j hj => ?_⟩, fun c h1 h2 => by rw [hP.1 c h2, k0 c h1]⟩
  · unfold mX0_copyFrom_51_182
    rw [u2_c (by decide), ← hI0, show mX0_copyFrom_51_182_18 N N 0 I0 = some I' from e, ob_some]
  · have h1 : CS ν (184 + 3 * ((f + j) % 40)) ks[j] I0 := (f4 j hj).eq (k0 _ (by omega)) (k0 _ (by omega)) (k0 _ (by omega))
    exact h1.cp hn (hP.2 _ (by omega))
theorem c_sg_304 {I : gI} {vs : List (Nat → Nat)} (hN : 100 ≤ N) (hl : vs.length ≤ 8) (hb : ∀ v ∈ vs, v 4 ≤ 1) (h0 : I 173 5 = nI vs.length) (h1 : ∀ j, (hj : j < vs.length) → ∀ k, k < 5 → I (173 + 1 + k) j = nI (vs[j] k)) : ∃ I', mX7_copyFrom_304_173 N I = some I' ∧ I' 304 5 = nI vs.length ∧ (∀ j, (hj : j < vs.length) → ∀ k, k < 5 → I' (304 + 1 + k) j = nI (vs[j] k)) ∧ ∀ c, c < 304 ∨ 304+5 < c → I' c = I c := by
  obtain ⟨I0, hI0⟩ : ∃ I0, I0 = upd2 I 304 5 (I 173 5) := ⟨_, rfl⟩
  obtain ⟨I', hP, e⟩ := loopP (F := fun n s i => mX7_copyFrom_304_173_10 n i s) (b := 8) (out := id)
    (P := fun k s => s 304 = I0 304 ∧ (∀ c, c < 304 ∨ 304+5 < c → s c = I c) ∧ ∀ j, j < k → s 305 j = I 174 j ∧ s 306 j = I 175 j ∧ s 307 j = I 176 j ∧ s 308 j = I 177 j ∧ s 309 j = vp_nar .boolean (I 178 j))
    (fun n s _ => by
      show mX7_copyFrom_304_173_10 (n + 1) (nI 8) s = some s
      rw [mX7_copyFrom_304_173_10, if_pos (by decide)])
    (fun n k s hk hP => by
      refine ⟨upd2 (upd2 (upd2 (upd2 (upd2 s 305 k (I 174 k)) 306 k (I 175 k)) 307 k (I 176 k)) 308 k (I 177 k)) 309 k (vp_nar .boolean (I 178 k)), ?_, ?_, fun c hc => ?_, fun j hj => ?_⟩
      · show mX7_copyFrom_304_173_10 (n + 1) (nI k) s = mX7_copyFrom_304_173_10 n (nI (k + 1)) _
        rw [mX7_copyFrom_304_173_10, show (8 : Int32) = nI 8 from rfl, if_neg (nI_ge hk (by omega)), ck_n (by omega) (by decide), nI_clamp (by omega), nI_1]
        simp only [nm_n]
        simp only [u2_c (show 175 ≠ 305 by decide), u2_c (show 176 ≠ 305 by decide), u2_c (show 176 ≠ 306 by decide), u2_c (show 177 ≠ 305 by decide), u2_c (show 177 ≠ 306 by decide), u2_c (show 177 ≠ 307 by decide), u2_c (show 178 ≠ 305 by decide), u2_c (show 178 ≠ 306 by decide), u2_c (show 178 ≠ 307 by decide), u2_c (show 178 ≠ 308 by decide)]
        rw [hP.2.1 174 (by omega), hP.2.1 175 (by omega), hP.2.1 176 (by omega), hP.2.1 177 (by omega), hP.2.1 178 (by omega)]
      · rw [u2_c (by decide), u2_c (by decide), u2_c (by decide), u2_c (by decide), u2_c (by decide)]; exact hP.1
      · rw [u2_c (by omega), u2_c (by omega), u2_c (by omega), u2_c (by omega), u2_c (by omega)]; exact hP.2.1 c hc
      · by_cases h : j = k
        · subst h
          refine ⟨?_, ?_, ?_, ?_, u2_at⟩
          · rw [u2_c (by decide), u2_c (by decide), u2_c (by decide), u2_c (by decide), u2_at]
          · rw [u2_c (by decide), u2_c (by decide), u2_c (by decide), u2_at]
          · rw [u2_c (by decide), u2_c (by decide), u2_at]
          · rw [u2_c (by decide), u2_at]
        · have h2 : ∀ a v (S : gI) c, upd2 S a k v c j = S c j := fun a v S c => u2_ne (by omega)
          rw [h2, h2, h2, h2, h2, h2, h2, h2, h2, h2, h2, h2, h2, h2, h2, h2, h2, h2, h2, h2, h2, h2, h2, h2, h2]
          exact hP.2.2 j (by omega))
    N 0 I0 (Nat.zero_le _) (by omega) ⟨rfl, fun c hc => by rw [hI0, u2_c (by omega)], fun j h => by omega⟩
  refine ⟨I', ?_, by rw [hP.1, hI0, u2_at, h0], fun j hj k hk => ?_, hP.2.1⟩
  · unfold mX7_copyFrom_304_173
    rw [← hI0, show mX7_copyFrom_304_173_10 N 0 I0 = some I' from e, ob_some]
  · have h9 := hP.2.2 j (by omega)
    have h4 := h1 j hj
    have hk' : k = 0 ∨ k = 1 ∨ k = 2 ∨ k = 3 ∨ k = 4 := by omega
    rcases hk' with rfl | rfl | rfl | rfl | rfl
    · exact h9.1.trans (h4 0 (by omega))
    · exact h9.2.1.trans (h4 1 (by omega))
    · exact h9.2.2.1.trans (h4 2 (by omega))
    · exact h9.2.2.2.1.trans (h4 3 (by omega))
    · have h5 : I 178 j = nI (vs[j] 4) := h4 4 (by omega)
      have hb4 := hb _ (List.getElem_mem hj)
      refine h9.2.2.2.2.trans ?_
      rw [h5]
      have : vs[j] 4 = 0 ∨ vs[j] 4 = 1 := by omega
      rcases this with e | e
      · rw [e]; rfl
      · rw [e]; rfl
theorem c_sg_173 {I : gI} {vs : List (Nat → Nat)} (hN : 100 ≤ N) (hl : vs.length ≤ 8) (hb : ∀ v ∈ vs, v 4 ≤ 1) (h0 : I 304 5 = nI vs.length) (h1 : ∀ j, (hj : j < vs.length) → ∀ k, k < 5 → I (304 + 1 + k) j = nI (vs[j] k)) : ∃ I', mX7_copyFrom_173_304 N I = some I' ∧ I' 173 5 = nI vs.length ∧ (∀ j, (hj : j < vs.length) → ∀ k, k < 5 → I' (173 + 1 + k) j = nI (vs[j] k)) ∧ ∀ c, c < 173 ∨ 173+5 < c → I' c = I c := by
  obtain ⟨I0, hI0⟩ : ∃ I0, I0 = upd2 I 173 5 (I 304 5) := ⟨_, rfl⟩
  obtain ⟨I', hP, e⟩ := loopP (F := fun n s i => mX7_copyFrom_173_304_10 n i s) (b := 8) (out := id)
    (P := fun k s => s 173 = I0 173 ∧ (∀ c, c < 173 ∨ 173+5 < c → s c = I c) ∧ ∀ j, j < k → s 174 j = I 305 j ∧ s 175 j = I 306 j ∧ s 176 j = I 307 j ∧ s 177 j = I 308 j ∧ s 178 j = vp_nar .boolean (I 309 j))
    (fun n s _ => by
      show mX7_copyFrom_173_304_10 (n + 1) (nI 8) s = some s
      rw [mX7_copyFrom_173_304_10, if_pos (by decide)])
    (fun n k s hk hP => by
      refine ⟨upd2 (upd2 (upd2 (upd2 (upd2 s 174 k (I 305 k)) 175 k (I 306 k)) 176 k (I 307 k)) 177 k (I 308 k)) 178 k (vp_nar .boolean (I 309 k)), ?_, ?_, fun c hc => ?_, fun j hj => ?_⟩
      · show mX7_copyFrom_173_304_10 (n + 1) (nI k) s = mX7_copyFrom_173_304_10 n (nI (k + 1)) _
        rw [mX7_copyFrom_173_304_10, show (8 : Int32) = nI 8 from rfl, if_neg (nI_ge hk (by omega)), ck_n (by omega) (by decide), nI_clamp (by omega), nI_1]
        simp only [nm_n]
        simp only [u2_c (show 306 ≠ 174 by decide), u2_c (show 307 ≠ 174 by decide), u2_c (show 307 ≠ 175 by decide), u2_c (show 308 ≠ 174 by decide), u2_c (show 308 ≠ 175 by decide), u2_c (show 308 ≠ 176 by decide), u2_c (show 309 ≠ 174 by decide), u2_c (show 309 ≠ 175 by decide), u2_c (show 309 ≠ 176 by decide), u2_c (show 309 ≠ 177 by decide)]
        rw [hP.2.1 305 (by omega), hP.2.1 306 (by omega), hP.2.1 307 (by omega), hP.2.1 308 (by omega), hP.2.1 309 (by omega)]
      · rw [u2_c (by decide), u2_c (by decide), u2_c (by decide), u2_c (by decide), u2_c (by decide)]; exact hP.1
      · rw [u2_c (by omega), u2_c (by omega), u2_c (by omega), u2_c (by omega), u2_c (by omega)]; exact hP.2.1 c hc
      · by_cases h : j = k
        · subst h
          refine ⟨?_, ?_, ?_, ?_, u2_at⟩
          · rw [u2_c (by decide), u2_c (by decide), u2_c (by decide), u2_c (by decide), u2_at]
          · rw [u2_c (by decide), u2_c (by decide), u2_c (by decide), u2_at]
          · rw [u2_c (by decide), u2_c (by decide), u2_at]
          · rw [u2_c (by decide), u2_at]
        · have h2 : ∀ a v (S : gI) c, upd2 S a k v c j = S c j := fun a v S c => u2_ne (by omega)
          rw [h2, h2, h2, h2, h2, h2, h2, h2, h2, h2, h2, h2, h2, h2, h2, h2, h2, h2, h2, h2, h2, h2, h2, h2, h2]
          exact hP.2.2 j (by omega))
    N 0 I0 (Nat.zero_le _) (by omega) ⟨rfl, fun c hc => by rw [hI0, u2_c (by omega)], fun j h => by omega⟩
  refine ⟨I', ?_, by rw [hP.1, hI0, u2_at, h0], fun j hj k hk => ?_, hP.2.1⟩
  · unfold mX7_copyFrom_173_304
    rw [← hI0, show mX7_copyFrom_173_304_10 N 0 I0 = some I' from e, ob_some]
  · have h9 := hP.2.2 j (by omega)
    have h4 := h1 j hj
    have hk' : k = 0 ∨ k = 1 ∨ k = 2 ∨ k = 3 ∨ k = 4 := by omega
    rcases hk' with rfl | rfl | rfl | rfl | rfl
    · exact h9.1.trans (h4 0 (by omega))
    · exact h9.2.1.trans (h4 1 (by omega))
    · exact h9.2.2.1.trans (h4 2 (by omega))
    · exact h9.2.2.2.1.trans (h4 3 (by omega))
    · have h5 : I 309 j = nI (vs[j] 4) := h4 4 (by omega)
      have hb4 := hb _ (List.getElem_mem hj)
      refine h9.2.2.2.2.trans ?_
      rw [h5]
      have : vs[j] 4 = 0 ∨ vs[j] 4 = 1 := by omega
      rcases this with e | e
      · rw [e]; rfl
      · rw [e]; rfl
theorem m_cp_318_335 {I : gI} (hN : 4000 ≤ N) : ∃ I', mX11_copies_318_335 N I = some I' ∧ (∀ c, c ≠ 335 → I' c = I c) ∧ ∀ j, j < 3280 → I' 335 j = I 318 j := by
  obtain ⟨I', hP, e⟩ := loopP (F := fun n s i => mX11_copies_318_335_2 n i s) (b := 3280) (out := id)
    (P := fun k s => (∀ c, c ≠ 335 → s c = I c) ∧ ∀ j, j < k → s 335 j = I 318 j)
    (fun n s _ => by
      show mX11_copies_318_335_2 (n + 1) (nI 3280) s = some s
      rw [mX11_copies_318_335_2, if_pos (by decide)])
    (fun n k s hk hP => by
      refine ⟨upd2 s 335 k (I 318 k), ?_, fun c hc => by rw [u2_c hc]; exact hP.1 c hc, fun j hj => ?_⟩
      · show mX11_copies_318_335_2 (n + 1) (nI k) s = mX11_copies_318_335_2 n (nI (k + 1)) _
        rw [mX11_copies_318_335_2, show (3280 : Int32) = nI 3280 from rfl, if_neg (nI_ge hk (by omega)), ck_n (by omega) (by decide), nI_clamp (by omega), hP.1 318 (by decide), nI_1]
      · by_cases h : j = k
        · subst h; exact u2_at
        · rw [u2_ne (by omega)]; exact hP.2 j (by omega))
    N 0 I (by omega) (by omega) ⟨fun _ _ => rfl, fun j h => by omega⟩
  refine ⟨I', ?_, hP.1, hP.2⟩
  unfold mX11_copies_318_335
  rw [show mX11_copies_318_335_2 N 0 I = some I' from e, ob_some]
theorem m_cp_335_318 {I : gI} (hN : 4000 ≤ N) : ∃ I', mX11_copies_335_318 N I = some I' ∧ (∀ c, c ≠ 318 → I' c = I c) ∧ ∀ j, j < 3280 → I' 318 j = I 335 j := by
  obtain ⟨I', hP, e⟩ := loopP (F := fun n s i => mX11_copies_335_318_2 n i s) (b := 3280) (out := id)
    (P := fun k s => (∀ c, c ≠ 318 → s c = I c) ∧ ∀ j, j < k → s 318 j = I 335 j)
    (fun n s _ => by
      show mX11_copies_335_318_2 (n + 1) (nI 3280) s = some s
      rw [mX11_copies_335_318_2, if_pos (by decide)])
    (fun n k s hk hP => by
      refine ⟨upd2 s 318 k (I 335 k), ?_, fun c hc => by rw [u2_c hc]; exact hP.1 c hc, fun j hj => ?_⟩
      · show mX11_copies_335_318_2 (n + 1) (nI k) s = mX11_copies_335_318_2 n (nI (k + 1)) _
        rw [mX11_copies_335_318_2, show (3280 : Int32) = nI 3280 from rfl, if_neg (nI_ge hk (by omega)), ck_n (by omega) (by decide), nI_clamp (by omega), hP.1 335 (by decide), nI_1]
      · by_cases h : j = k
        · subst h; exact u2_at
        · rw [u2_ne (by omega)]; exact hP.2 j (by omega))
    N 0 I (by omega) (by omega) ⟨fun _ _ => rfl, fun j h => by omega⟩
  refine ⟨I', ?_, hP.1, hP.2⟩
  unfold mX11_copies_335_318
  rw [show mX11_copies_335_318_2 N 0 I = some I' from e, ob_some]
theorem m_cp_333_336 {I : gI} (hN : 4000 ≤ N) : ∃ I', mX11_copies_333_336 N I = some I' ∧ (∀ c, c ≠ 336 → I' c = I c) ∧ ∀ j, j < 40 → I' 336 j = I 333 j := by
  obtain ⟨I', hP, e⟩ := loopP (F := fun n s i => mX11_copies_333_336_2 n i s) (b := 40) (out := id)
    (P := fun k s => (∀ c, c ≠ 336 → s c = I c) ∧ ∀ j, j < k → s 336 j = I 333 j)
    (fun n s _ => by
      show mX11_copies_333_336_2 (n + 1) (nI 40) s = some s
      rw [mX11_copies_333_336_2, if_pos (by decide)])
    (fun n k s hk hP => by
      refine ⟨upd2 s 336 k (I 333 k), ?_, fun c hc => by rw [u2_c hc]; exact hP.1 c hc, fun j hj => ?_⟩
      · show mX11_copies_333_336_2 (n + 1) (nI k) s = mX11_copies_333_336_2 n (nI (k + 1)) _
        rw [mX11_copies_333_336_2, show (40 : Int32) = nI 40 from rfl, if_neg (nI_ge hk (by omega)), ck_n (by omega) (by decide), nI_clamp (by omega), hP.1 333 (by decide), nI_1]
      · by_cases h : j = k
        · subst h; exact u2_at
        · rw [u2_ne (by omega)]; exact hP.2 j (by omega))
    N 0 I (by omega) (by omega) ⟨fun _ _ => rfl, fun j h => by omega⟩
  refine ⟨I', ?_, hP.1, hP.2⟩
  unfold mX11_copies_333_336
  rw [show mX11_copies_333_336_2 N 0 I = some I' from e, ob_some]
theorem m_cp_336_333 {I : gI} (hN : 4000 ≤ N) : ∃ I', mX11_copies_336_333 N I = some I' ∧ (∀ c, c ≠ 333 → I' c = I c) ∧ ∀ j, j < 40 → I' 333 j = I 336 j := by
  obtain ⟨I', hP, e⟩ := loopP (F := fun n s i => mX11_copies_336_333_2 n i s) (b := 40) (out := id)
    (P := fun k s => (∀ c, c ≠ 333 → s c = I c) ∧ ∀ j, j < k → s 333 j = I 336 j)
    (fun n s _ => by
      show mX11_copies_336_333_2 (n + 1) (nI 40) s = some s
      rw [mX11_copies_336_333_2, if_pos (by decide)])
    (fun n k s hk hP => by
      refine ⟨upd2 s 333 k (I 336 k), ?_, fun c hc => by rw [u2_c hc]; exact hP.1 c hc, fun j hj => ?_⟩
      · show mX11_copies_336_333_2 (n + 1) (nI k) s = mX11_copies_336_333_2 n (nI (k + 1)) _
        rw [mX11_copies_336_333_2, show (40 : Int32) = nI 40 from rfl, if_neg (nI_ge hk (by omega)), ck_n (by omega) (by decide), nI_clamp (by omega), hP.1 336 (by decide), nI_1]
      · by_cases h : j = k
        · subst h; exact u2_at
        · rw [u2_ne (by omega)]; exact hP.2 j (by omega))
    N 0 I (by omega) (by omega) ⟨fun _ _ => rfl, fun j h => by omega⟩
  refine ⟨I', ?_, hP.1, hP.2⟩
  unfold mX11_copies_336_333
  rw [show mX11_copies_336_333_2 N 0 I = some I' from e, ob_some]
theorem m_image_28 {I : gI} (hN : 4000 ≤ N) : ∃ I', mX11_image_28 N 0 I = some I' ∧ (∀ c, c ≠ 334 → I' c = I c) ∧ ∀ j, j < 82 → I' 334 j = I 317 j := by
  obtain ⟨I', hP, e⟩ := loopP (F := fun n s i => mX11_image_28 n i s) (b := 82) (out := id)
    (P := fun k s => (∀ c, c ≠ 334 → s c = I c) ∧ ∀ j, j < k → s 334 j = I 317 j)
    (fun n s _ => by
      show mX11_image_28 (n + 1) (nI 82) s = some s
      rw [mX11_image_28, if_pos (by decide)])
    (fun n k s hk hP => by
      refine ⟨upd2 s 334 k (I 317 k), ?_, fun c hc => by rw [u2_c hc]; exact hP.1 c hc, fun j hj => ?_⟩
      · show mX11_image_28 (n + 1) (nI k) s = mX11_image_28 n (nI (k + 1)) _
        rw [mX11_image_28, show (82 : Int32) = nI 82 from rfl, if_neg (nI_ge hk (by omega)), ck_n (by omega) (by decide), ck_n (by omega) (by decide), nI_clamp (by omega), hP.1 317 (by decide), nI_1]
      · by_cases h : j = k
        · subst h; exact u2_at
        · rw [u2_ne (by omega)]; exact hP.2 j (by omega))
    N 0 I (by omega) (by omega) ⟨fun _ _ => rfl, fun j h => by omega⟩
  exact ⟨I', e, hP.1, hP.2⟩
theorem m_restore_32 {I : gI} (hN : 4000 ≤ N) : ∃ I', mX11_restore_32 N 0 I = some I' ∧ (∀ c, c ≠ 317 → I' c = I c) ∧ ∀ j, j < 82 → I' 317 j = I 334 j := by
  obtain ⟨I', hP, e⟩ := loopP (F := fun n s i => mX11_restore_32 n i s) (b := 82) (out := id)
    (P := fun k s => (∀ c, c ≠ 317 → s c = I c) ∧ ∀ j, j < k → s 317 j = I 334 j)
    (fun n s _ => by
      show mX11_restore_32 (n + 1) (nI 82) s = some s
      rw [mX11_restore_32, if_pos (by decide)])
    (fun n k s hk hP => by
      refine ⟨upd2 s 317 k (I 334 k), ?_, fun c hc => by rw [u2_c hc]; exact hP.1 c hc, fun j hj => ?_⟩
      · show mX11_restore_32 (n + 1) (nI k) s = mX11_restore_32 n (nI (k + 1)) _
        rw [mX11_restore_32, show (82 : Int32) = nI 82 from rfl, if_neg (nI_ge hk (by omega)), ck_n (by omega) (by decide), ck_n (by omega) (by decide), nI_clamp (by omega), hP.1 334 (by decide), nI_1]
      · by_cases h : j = k
        · subst h; exact u2_at
        · rw [u2_ne (by omega)]; exact hP.2 j (by omega))
    N 0 I (by omega) (by omega) ⟨fun _ _ => rfl, fun j h => by omega⟩
  exact ⟨I', e, hP.1, hP.2⟩
end Raw
