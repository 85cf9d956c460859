/-! the reference settles -/
/-- what settling leaves as it was -/
def FS (b : Nat) (I I' : gI) : Prop := (∀ c, c ∉ [310, 317, 319, 320, 321, 322, 323, 324] → I' c = I c) ∧ (∀ j, j ∉ [32, 33, 34, 35, 36] → I' 310 j = I 310 j) ∧ ∀ j, (j < b ∨ b + 82 ≤ j) → I' 317 j = I 317 j
theorem FS.rf {b : Nat} {I : gI} : FS b I I := ⟨fun _ _ => rfl, fun _ _ => rfl, fun _ _ => rfl⟩
theorem FS.tr {b : Nat} {I I' I'' : gI} (h : FS b I I') (h2 : FS b I' I'') : FS b I I'' := ⟨fun c hc => (h2.1 c hc).trans (h.1 c hc), fun j hj => (h2.2.1 j hj).trans (h.2.1 j hj), fun j hj => (h2.2.2 j hj).trans (h.2.2 j hj)⟩
theorem FS.fb {b : Nat} {I I' : gI} (h : FB I I') : FS b I I' := ⟨fun c hc => h.1 c (fun h => hc (by simp at h ⊢; omega)), fun j hj => h.2 j (fun h => hj (by simp at h ⊢; omega)), fun j _ => by rw [h.1 317 (by simp)]⟩
theorem FS.u {b : Nat} {I I' : gI} (h : FS b I I') {j : Nat} {v : Int32} (h1 : b ≤ j) (h2 : j < b + 82) : FS b I (upd2 I' 317 j v) := ⟨fun c hc => (u2_c (fun e => hc (by simp [e]))).trans (h.1 c hc), fun j hj => by rw [u2_c (by decide)]; exact h.2.1 j hj, fun i hi => by rw [u2_ne (by omega)]; exact h.2.2 i hi⟩
theorem FS.u36 {b : Nat} {I I' : gI} (h : FS b I I') {v : Int32} : FS b I (upd2 I' 310 36 v) := ⟨fun c hc => (u2_c (fun e => hc (by simp [e]))).trans (h.1 c hc), fun j hj => by rw [u2_ne (fun e => hj (by simp [e.2]))]; exact h.2.1 j hj, fun i hi => by rw [u2_c (by decide)]; exact h.2.2 i hi⟩
theorem NetM.fs {ν : Nt} {b : Nat} {I I' : gI} (h : NetM ν I) (hf : FS b I I') : NetM ν I' := ⟨by rw [hf.2.1 13 (by simp)]; exact h.1, by rw [hf.2.1 14 (by simp)]; exact h.2.1, by rw [hf.2.1 15 (by simp)]; exact h.2.2.1, fun l hl j hj => by rw [hf.1 313 (by simp)]; exact h.2.2.2.1 l hl j hj, fun t ht j hj => by rw [hf.1 315 (by simp)]; exact h.2.2.2.2 t ht j hj⟩
section MSettle
variable {ν : Nt} {N b : Nat}
theorem m_stg {I : gI} {k1 : Int32} (hn : WfN ν) (hI : NetM ν I) (hN : 100 ≤ N) {s : Nat} (hs : s < 2 ^ ν.tn) (h0 : s ≠ 0) : ∃ t, mX11_settles_12 k1 (nI s) I N (-1) 0 = some (nI t) ∧ stg ν s t := by
  have htn := hn.2.2.2.1
  obtain ⟨v, hP, e⟩ := loopP (F := fun n (v : Int32) i => mX11_settles_12 k1 (nI s) I n v i) (b := ν.tn) (out := id)
    (P := fun k v => ((∀ o, o < k → s.testBit o = false) ∧ v = -1) ∨ ∃ t, t < k ∧ s.testBit t = true ∧ v = nI t ∧ ∀ o, o < k → s.testBit o = true → ν.T t 3 < ν.T o 3 ∨ (ν.T t 3 = ν.T o 3 ∧ t ≤ o))
    (fun n v _ => by
      show mX11_settles_12 k1 (nI s) I (n + 1) v (nI ν.tn) = some v
      rw [mX11_settles_12, hI.2.2.1, if_pos (nI_le (Nat.le_refl _) (by omega))])
    (fun n k v hk hP => by
      have hT := hn.2.2.2.2.2 k hk
      have key : mX11_settles_12 k1 (nI s) I (n + 1) v (nI k) = if s.testBit k = true then (if v = -1 then mX11_settles_12 k1 (nI s) I n (nI k) (nI (k + 1)) else Option.bind (mX11_setupOf v I) (fun r7 => if r7 ≤ nI (ν.T k 3) then mX11_settles_12 k1 (nI s) I n v (nI (k + 1)) else mX11_settles_12 k1 (nI s) I n (nI k) (nI (k + 1)))) else mX11_settles_12 k1 (nI s) I n v (nI (k + 1)) := by
        rw [mX11_settles_12, hI.2.2.1, if_neg (nI_ge hk (by omega)), m_setup hn hI hk, ob_some, nI_1]
        cases h1 : s.testBit k with
        | false => rw [if_neg (fun h => by rw [mb1 (by omega), b_nI (by omega), h1] at h; cases h), if_neg (by decide)]
        | true => rw [if_pos ((mb1 (by omega) _).mpr (by rw [b_nI (by omega)]; exact h1)), if_pos rfl]
      cases h1 : s.testBit k with
      | false =>
        rw [h1, if_neg (by decide)] at key
        refine ⟨v, key, ?_⟩
        rcases hP with ⟨a1, a2⟩ | ⟨t, a1, a2, a3, a6⟩
        · refine Or.inl ⟨fun o ho => ?_, a2⟩
          by_cases e : o = k
          · subst e; exact h1
          · exact a1 o (by omega)
        · refine Or.inr ⟨t, by omega, a2, a3, fun o ho h2 => ?_⟩
          by_cases e : o = k
          · subst e; rw [h1] at h2; cases h2
          · exact a6 o (by omega) h2
      | true =>
        rw [h1, if_pos rfl] at key
        rcases hP with ⟨a1, a2⟩ | ⟨t, a1, a2, a3, a6⟩
        · rw [if_pos a2] at key
          refine ⟨nI k, key, Or.inr ⟨k, by omega, h1, rfl, fun o ho h2 => ?_⟩⟩
          by_cases e : o = k
          · subst e; exact Or.inr ⟨rfl, Nat.le_refl _⟩
          · rw [a1 o (by omega)] at h2; cases h2
        · have hTt := hn.2.2.2.2.2 t (by omega)
          rw [if_neg (by rw [a3]; exact nI_m1 (by omega)), show mX11_setupOf v I = some (nI (ν.T t 3)) by rw [a3, m_setup hn hI (by omega)], ob_some] at key
          by_cases h3 : ν.T t 3 ≤ ν.T k 3
          · rw [if_pos (nI_le h3 (by omega))] at key
            refine ⟨v, key, Or.inr ⟨t, by omega, a2, a3, fun o ho h2 => ?_⟩⟩
            by_cases e : o = k
            · subst e; omega
            · exact a6 o (by omega) h2
          · rw [if_neg (nI_ge (by omega) (by omega))] at key
            refine ⟨nI k, key, Or.inr ⟨k, by omega, h1, rfl, fun o ho h2 => ?_⟩⟩
            by_cases e : o = k
            · subst e; exact Or.inr ⟨rfl, Nat.le_refl _⟩
            · have := a6 o (by omega) h2
              omega)
    N 0 (-1) (Nat.zero_le _) (by omega) (Or.inl ⟨fun o h => by omega, rfl⟩)
  have e' : mX11_settles_12 k1 (nI s) I N (-1) 0 = some v := e
  rcases hP with ⟨a1, -⟩ | ⟨t, a1, a2, a3, a6⟩
  · exfalso
    apply h0
    apply Nat.eq_of_testBit_eq
    intro i
    rw [Nat.zero_testBit]
    cases h1 : s.testBit i with
    | false => rfl
    | true => rw [a1 i (tb_lt hs h1)] at h1; cases h1
  · exact ⟨t, by rw [e', a3], a1, a2, a6⟩
theorem m_takes {I : gI} {σ : St} (hn : WfN ν) (hI : NetM ν I) (hs : MS ν 317 b σ I) (hw : WfW ν σ) (hb : b ≤ 82) (hN : 100 ≤ N) {t : Nat} {q : List Nat} (ht : t < ν.tn) (hq : q ≠ []) (hq7 : q.length ≤ 7) (h32 : I 310 32 = nI q.length) (h322 : ∀ k, (hk : k < q.length) → I 322 k = nI q[k]) : ∃ I', mX11_takes N (nI b) (nI t) I = some I' ∧ FS b I I' ∧ I' 310 = I 310 ∧ MS ν 317 b (stW σ t q) I' := by
  have htn := hn.2.2.2.1
  obtain ⟨I', hP, e⟩ := loopP (F := fun n s' i => mX11_takes_17 (nI b) (nI t) n i s') (b := q.length) (out := id)
    (P := fun k s' => FS b I s' ∧ s' 310 = I 310 ∧ s' 322 = I 322 ∧ (∀ j, j < b + 19 + 7 * t ∨ b + 19 + 7 * t + 7 ≤ j → s' 317 j = (upd2 I 317 (b + 10 + t) (nI q.length)) 317 j) ∧ ∀ j, (hj : j < q.length) → j < k → s' 317 (b + 19 + 7 * t + j) = nI q[j])
    (fun n s' hP => by
      show mX11_takes_17 (nI b) (nI t) (n + 1) (nI q.length) s' = some s'
      rw [mX11_takes_17, hP.2.1, h32, if_pos (nI_le (Nat.le_refl _) (by omega))])
    (fun n k s' hk hP => by
      refine ⟨upd2 s' 317 (b + 19 + 7 * t + k) (nI q[k]), ?_, hP.1.u (by omega) (by omega), by rw [u2_c (by decide)]; exact hP.2.1, by rw [u2_c (by decide)]; exact hP.2.2.1, fun j hj => by rw [u2_ne (by omega)]; exact hP.2.2.2.1 j hj, fun j hj hjk => ?_⟩
      · show mX11_takes_17 (nI b) (nI t) (n + 1) (nI k) s' = mX11_takes_17 (nI b) (nI t) n (nI (k + 1)) _
        rw [mX11_takes_17, hP.2.1, h32, if_neg (nI_ge hk (by omega)), ck_n (by omega) (by decide), ix19, ck_n (by omega) (by decide), nI_clamp (by omega), nI_clamp (by omega), hP.2.2.1, h322 k hk, nm_n, nI_1]
      · by_cases h : j = k
        · subst h; exact u2_at
        · rw [u2_ne (by omega)]; exact hP.2.2.2.2 j hj (by omega))
    N 0 (upd2 I 317 (b + 10 + t) (nI q.length)) (Nat.zero_le _) (by omega) ⟨FS.rf.u (by omega) (by omega), u2_c (by decide), u2_c (by decide), fun j _ => rfl, fun j _ h => by omega⟩
  refine ⟨I', ?_, hP.1, hP.2.1, ?_, fun i hi => ⟨?_, ?_, fun k hk => ?_⟩⟩
  · unfold mX11_takes
    rw [ix10, ck_n (by omega) (by decide), nI_clamp (by omega), h32, show mX11_takes_17 (nI b) (nI t) N 0 (upd2 I 317 (b + 10 + t) (nI q.length)) = some I' from e, ob_some]
  · rw [hP.2.2.2.1 b (by omega), u2_ne (by omega)]; exact hs.1
  · rw [hP.2.2.2.1 _ (by omega), u2_ne (by omega)]; exact (hs.2 i hi).1
  · rw [hP.2.2.2.1 _ (by omega), stW_w]
    by_cases h : i = t
    · subst h; rw [if_pos rfl, u2_at, if_neg hq]
    · rw [if_neg h, u2_ne (by omega)]; exact (hs.2 i hi).2.1
  · by_cases h : i = t
    · subst h
      have e0 : (stW σ i q).w i = q := by rw [stW_w, if_pos rfl]
      have hk' : k < q.length := by rw [e0] at hk; exact hk
      rw [hP.2.2.2.2 k hk' hk']
      simp only [e0]
    · have e0 : (stW σ t q).w i = σ.w i := by rw [stW_w, if_neg h]
      have hk' : k < (σ.w i).length := by rw [e0] at hk; exact hk
      have h7 := (hw i hi).2.1
      rw [hP.2.2.2.1 _ (by omega), u2_ne (by omega), (hs.2 i hi).2.2 k hk']
      simp only [e0]
theorem m_drop {I : gI} {σ : St} {k3 : Int32} (hn : WfN ν) (hI : NetM ν I) (hs : MS ν 317 b σ I) (hb : b ≤ 82) (hN : 100 ≤ N) (s : Nat) : ∃ I', mX11_settles_128 (nI b) k3 (nI s) N 0 I = some I' ∧ FS b I I' ∧ I' 310 = I 310 ∧ MS ν 317 b (dpW σ s) I' := by
  have htn := hn.2.2.2.1
  obtain ⟨I', hP, e⟩ := loopP (F := fun n s' i => mX11_settles_128 (nI b) k3 (nI s) n i s') (b := ν.tn) (out := id)
    (P := fun k s' => FS b I s' ∧ s' 310 = I 310 ∧ ∀ j, s' 317 j = if b + 10 ≤ j ∧ j < b + 10 + k ∧ s.testBit (j - (b + 10)) = true then -1 else I 317 j)
    (fun n s' hP => by
      show mX11_settles_128 (nI b) k3 (nI s) (n + 1) (nI ν.tn) s' = some s'
      rw [mX11_settles_128, (hI.fs hP.1).2.2.1, if_pos (nI_le (Nat.le_refl _) (by omega))])
    (fun n k s' hk hP => by
      have key : mX11_settles_128 (nI b) k3 (nI s) (n + 1) (nI k) s' = mX11_settles_128 (nI b) k3 (nI s) n (nI (k + 1)) (if s.testBit k = true then upd2 s' 317 (b + 10 + k) (-1) else s') := by
        rw [mX11_settles_128, (hI.fs hP.1).2.2.1, if_neg (nI_ge hk (by omega)), ix10, ck_n (by omega) (by decide), nI_clamp (by omega), nI_1]
        cases h1 : s.testBit k with
        | false => rw [if_neg (fun h => by rw [mb1 (by omega), b_nI (by omega), h1] at h; cases h), if_neg (by decide)]
        | true => rw [if_pos ((mb1 (by omega) _).mpr (by rw [b_nI (by omega)]; exact h1)), if_pos rfl]
      refine ⟨_, key, ?_, ?_, fun j => ?_⟩
      · split
        · exact hP.1.u (by omega) (by omega)
        · exact hP.1
      · split
        · rw [u2_c (by decide)]; exact hP.2.1
        · exact hP.2.1
      · by_cases h1 : s.testBit k = true
        · rw [if_pos h1]
          by_cases e : j = b + 10 + k
          · subst e; rw [u2_at, if_pos ⟨by omega, by omega, by rw [show b + 10 + k - (b + 10) = k by omega]; exact h1⟩]
          · rw [u2_ne (by omega), hP.2.2 j]
            by_cases h2 : b + 10 ≤ j ∧ j < b + 10 + k ∧ s.testBit (j - (b + 10)) = true
            · rw [if_pos h2, if_pos ⟨h2.1, by omega, h2.2.2⟩]
            · rw [if_neg h2, if_neg (fun h => h2 ⟨h.1, by omega, h.2.2⟩)]
        · rw [if_neg h1, hP.2.2 j]
          by_cases h2 : b + 10 ≤ j ∧ j < b + 10 + k ∧ s.testBit (j - (b + 10)) = true
          · rw [if_pos h2, if_pos ⟨h2.1, by omega, h2.2.2⟩]
          · rw [if_neg h2, if_neg (fun h => h2 ⟨h.1, by
              by_cases e : j = b + 10 + k
              · subst e
                have h9 := h.2.2
                rw [show b + 10 + k - (b + 10) = k by omega] at h9
                exact absurd h9 h1
              · omega, h.2.2⟩)])
    N 0 I (Nat.zero_le _) (by omega) ⟨FS.rf, rfl, fun j => by rw [if_neg (by omega)]⟩
  refine ⟨I', e, hP.1, hP.2.1, ?_, fun i hi => ⟨?_, ?_, fun k hk => ?_⟩⟩
  · rw [hP.2.2 b, if_neg (by omega)]; exact hs.1
  · rw [hP.2.2 _, if_neg (by omega)]; exact (hs.2 i hi).1
  · rw [hP.2.2 _, show b + 10 + i - (b + 10) = i by omega, dpW_w]
    by_cases h : s.testBit i = true
    · rw [if_pos ⟨by omega, by omega, h⟩, if_pos h, if_pos rfl]
    · rw [if_neg (fun e => h e.2.2), if_neg h]; exact (hs.2 i hi).2.1
  · by_cases h : s.testBit i = true
    · have e0 : (dpW σ s).w i = [] := by rw [dpW_w, if_pos h]
      rw [e0] at hk
      cases hk
    · have e0 : (dpW σ s).w i = σ.w i := by rw [dpW_w, if_neg h]
      have hk' : k < (σ.w i).length := by rw [e0] at hk; exact hk
      rw [hP.2.2 _, if_neg (by omega), (hs.2 i hi).2.2 k hk']
      simp only [e0]
set_option maxHeartbeats 1000000 in
theorem m_settle2 (hn : WfN ν) (hN : 100000000000 ≤ N) (hb : b ≤ 82) : ∀ (n s : Nat) (σ : St) (I : gI) (fu c : Nat) (σ' : St), Gd ν σ → NetM ν I → MS ν 317 b σ I → s < 2 ^ ν.tn → n < fu → Stl ν n s σ c σ' → ∃ I', mX11_settles_2 N (nI b) fu (nI s) I = some I' ∧ MS ν 317 b σ' I' ∧ FS b I I' ∧ I' 310 36 = I 310 36 + nI c
  | n, s, σ, I, 0, c, σ', _, _, _, _, h, _ => by omega
  | 0, s, σ, I, fu + 1, c, σ', hg, hI, hs, _, _, h => by
    obtain ⟨rfl, rfl, rfl⟩ := h
    refine ⟨I, ?_, hs, FS.rf, by rw [nI_0', Int32.add_zero]⟩
    rw [mX11_settles_2, nI_0', if_pos rfl]
  | n + 1, s, σ, I, fu + 1, c, σ', hg, hI, hs, hlt, hfu, h => by
    have htn := hn.2.2.2.1
    have hpow : (2 : Nat) ^ ν.tn ≤ 2 ^ 9 := Nat.pow_le_pow_right (by decide) htn
    have h29 : (2 : Nat) ^ 9 = 512 := rfl
    have hww := hg.wf hn
    rcases h with ⟨rfl, rfl, rfl⟩ | ⟨h0, t, q, ht, hq, h⟩
    · refine ⟨I, ?_, hs, FS.rf, by rw [nI_0', Int32.add_zero]⟩
      rw [mX11_settles_2, nI_0', if_pos rfl]
    · obtain ⟨t', et, ht'⟩ := m_stg (N := N) (k1 := nI b) hn hI (by omega) hlt h0
      obtain rfl := stg_one ht ht'
      have hT := hn.2.2.2.2.2 t ht.1
      have hgt : t < 9 := by have := ht.1; omega
      obtain ⟨I13, q', hq', fB, hres⟩ := m_hasBest (N := N) hn hI hs hww hb hN ht.1 (hg.1 t ht.1).2.1
      obtain rfl := bst_one hn ht.1 hq hq'
      have hI13 := hI.fb fB
      have hs13 := hs.c (fB.1 317 (by simp))
      have hsl := clr_lt hlt ht.1
      have base : ∀ r, mX11_hasBest N (nI b) (nI t) (nI (σ.bd t)) I = some (r, I13) → mX11_settles_2 N (nI b) (fu + 1) (nI s) I = if r = 0 then mX11_settles_2 N (nI b) fu (nI (clr s t)) I13 else (Option.bind (mX11_takes N (nI b) (nI t) I13) (fun I16 => Option.bind (mX11_pushedBy N (nI b) (nI t) I16) (fun r18 => Option.bind (mX11_bits N r18 I16) (fun r20 => Option.bind (mX11_settles_128 (nI b) (nI (clr s t)) r18 N 0 (upd2 I16 310 36 ((I16 310 36) + r20))) (fun I25 => nm (nI (clr s t) ||| r18) (fun x26 => mX11_settles_2 N (nI b) fu x26 I25)))))) := by
        intro r e
        rw [mX11_settles_2, if_neg (nI_ne0 (by omega) (by omega)), et, ob_some, ix1, ck_n (by omega) (by decide), nI_clamp (by omega), (hs.2 t ht.1).1, e, ob_some, clr_nI (by omega) ht.2.1]
      rcases h with ⟨hq0, h1⟩ | ⟨hq0, s1, c', hp, hc, h1⟩
      · rcases hres with ⟨hne, -⟩ | ⟨-, e, -⟩
        · exact absurd hq0 hne
        obtain ⟨I', e2, h2, h3, h4⟩ := m_settle2 hn hN hb n (clr s t) σ I13 fu c σ' hg hI13 hs13 hsl (by omega) h1
        refine ⟨I', ?_, h2, (FS.fb fB).tr h3, by rw [h4, fB.2 36 (by simp)]⟩
        rw [base 0 e, if_pos rfl, e2]
      · rcases hres with ⟨-, e, k32, k322⟩ | ⟨hne, -⟩
        rotate_left
        · exact absurd hne hq0
        have hB := bst_isB hq hq0
        have hw1 : WfW ν (stW σ t q) := WfW_st (bd := 0) (p := 0) hn hww ht.1 hB
        have hw1t := hw1 t ht.1
        rw [stW_w, if_pos rfl] at hw1t
        obtain ⟨I16, e16, f16, k16, hs16⟩ := m_takes (N := N) hn hI13 hs13 hww hb (by omega) ht.1 hq0 hw1t.2.1 k32 k322
        have hI16 := hI13.fs f16
        obtain ⟨s1', e18, hp'⟩ := m_push (N := N) hn hI16 hs16 hw1 hb (by omega) ht.1 (by rw [stW_w, if_pos rfl]; exact hq0) (st_fit hB)
        obtain rfl := psh_one hp hp'
        have fA : FS b I16 (upd2 I16 310 36 (I16 310 36 + nI (pcn s1))) := FS.rf.u36
        have hsA : MS ν 317 b (stW σ t q) (upd2 I16 310 36 (I16 310 36 + nI (pcn s1))) := hs16.c (u2_c (by decide))
        obtain ⟨I25, e25, f25, k25, hs25⟩ := m_drop (N := N) (k3 := nI (clr s t)) hn (hI16.fs fA) hsA hb (by omega) s1
        obtain ⟨I', e2, h2, h3, h4⟩ := m_settle2 hn hN hb n (clr s t ||| s1) (dpW (stW σ t q) s1) I25 fu c' σ' (Gd_step hn hg ht.1 hB hp) ((hI16.fs fA).fs f25) hs25 (Nat.or_lt_two_pow hsl hp.1) (by omega) h1
        refine ⟨I', ?_, h2, ((FS.fb fB).tr (f16.tr (fA.tr f25))).tr h3, ?_⟩
        · rw [base 1 e, if_neg (by decide), e16, ob_some, e18, ob_some, m_bits (by omega), ob_some, e25, ob_some, nm_n, nx_or, e2]
        · rw [h4, k25, u2_at, k16, fB.2 36 (by simp), hc, ← nI_add, Int32.add_assoc]
theorem m_settle (hn : WfN ν) (hN : 100000000000 ≤ N) (hb : b ≤ 82) {s c : Nat} {σ σ' : St} {I : gI} (hg : Gd ν σ) (hI : NetM ν I) (hs : MS ν 317 b σ I) (h : s < 2 ^ ν.tn) (hS : Stl ν 9 s σ c σ') : ∃ I', mX11_settles N (nI b) (nI s) I = some I' ∧ MS ν 317 b σ' I' ∧ FS b I I' ∧ I' 310 36 = I 310 36 + nI c := by
  obtain ⟨I', e, r⟩ := m_settle2 (N := N) hn hN hb 9 s σ I N c σ' hg hI hs h (by omega) hS
  refine ⟨I', ?_, r⟩
  unfold mX11_settles
  rw [e, ob_some]
end MSettle
