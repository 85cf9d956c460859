/-! tunnels are settled: the class, the reference -/
section SettleC
variable {ν : Nt} {N u : Nat}
theorem c_stg {I : gI} (hn : WfN ν) (hI : NetC ν I) (hN : 100 ≤ N) {s : Nat} (hs : s < 2 ^ ν.tn) (h0 : s ≠ 0) : ∃ t, mX2_strongest N u (nI s) I = some (nI t) ∧ stg ν s t := by
  have htn := hn.2.2.2.1
  obtain ⟨v, hP, e⟩ := loopP (F := fun n (v : Int32 × Int32) i => mX2_strongest_8 u (nI s) I n v.1 v.2 i) (b := ν.tn) (out := fun v => v.1)
    (P := fun k v => ((∀ o, o < k → s.testBit o = false) ∧ v.1 = 0 ∧ v.2 = nI 1000000) ∨ ∃ t, t < k ∧ s.testBit t = true ∧ v.1 = nI t ∧ v.2 = nI (ν.T t 3) ∧ ν.T t 3 ≤ 7 ∧ ∀ o, o < k → s.testBit o = true → ν.T t 3 < ν.T o 3 ∨ (ν.T t 3 = ν.T o 3 ∧ t ≤ o))
    (fun n v _ => by
      show mX2_strongest_8 u (nI s) I (n + 1) v.1 v.2 (nI ν.tn) = some v.1
      rw [mX2_strongest_8, hI.2.2.1, if_pos (nI_le (Nat.le_refl _) (by omega))])
    (fun n k v hk hP => by
      have hT := hn.2.2.2.2.2 k hk
      have key : mX2_strongest_8 u (nI s) I (n + 1) v.1 v.2 (nI k) = if s.testBit k = true then (if v.2 ≤ nI (ν.T k 3) then mX2_strongest_8 u (nI s) I n v.1 v.2 (nI (k + 1)) else mX2_strongest_8 u (nI s) I n (nI k) (nI (ν.T k 3)) (nI (k + 1))) else mX2_strongest_8 u (nI s) I n v.1 v.2 (nI (k + 1)) := by
        rw [mX2_strongest_8, hI.2.2.1, if_neg (nI_ge hk (by omega)), ck_n (by omega) (by decide), nI_clamp (by omega), show I 11 k = nI (ν.T k 3) from hI.2.2.2.2 k hk 3 (by decide), nI_1]
        cases h1 : s.testBit k with
        | false => rw [if_pos ((cb0 (by omega) _).mpr (by rw [b_nI (by omega)]; exact h1)), if_neg (by decide)]
        | true => rw [if_neg (fun h => by rw [cb0 (by omega), b_nI (by omega), h1] at h; cases h), if_pos rfl]
      cases h1 : s.testBit k with
      | false =>
        rw [h1, if_neg (by decide)] at key
        refine ⟨v, key, ?_⟩
        rcases hP with ⟨a1, a2⟩ | ⟨t, a1, a2, a3, a4, a5, a6⟩
        · refine Or.inl ⟨fun o ho => ?_, a2⟩
          by_cases e : o = k
          · subst e; exact h1
          · exact a1 o (by omega)
        · refine Or.inr ⟨t, by omega, a2, a3, a4, a5, fun o ho h2 => ?_⟩
          by_cases e : o = k
          · subst e; rw [h1] at h2; cases h2
          · exact a6 o (by omega) h2
      | true =>
        rw [h1, if_pos rfl] at key
        rcases hP with ⟨a1, a2, a3⟩ | ⟨t, a1, a2, a3, a4, a5, a6⟩
        · rw [a3, if_neg (nI_ge (by omega) (by omega)), ← a3] at key
          refine ⟨(nI k, nI (ν.T k 3)), key, Or.inr ⟨k, by omega, h1, rfl, rfl, by omega, fun o ho h2 => ?_⟩⟩
          by_cases e : o = k
          · subst e; exact Or.inr ⟨rfl, Nat.le_refl _⟩
          · rw [a1 o (by omega)] at h2; cases h2
        · by_cases h3 : ν.T t 3 ≤ ν.T k 3
          · rw [a4, if_pos (nI_le h3 (by omega)), ← a4] at key
            refine ⟨v, key, Or.inr ⟨t, by omega, a2, a3, a4, a5, fun o ho h2 => ?_⟩⟩
            by_cases e : o = k
            · subst e; omega
            · exact a6 o (by omega) h2
          · rw [a4, if_neg (nI_ge (by omega) (by omega)), ← a4] at key
            refine ⟨(nI k, nI (ν.T k 3)), key, Or.inr ⟨k, by omega, h1, rfl, rfl, by omega, fun o ho h2 => ?_⟩⟩
            by_cases e : o = k
            · subst e; exact Or.inr ⟨rfl, Nat.le_refl _⟩
            · have := a6 o (by omega) h2
              omega)
    N 0 (0, nI 1000000) (Nat.zero_le _) (by omega) (Or.inl ⟨fun o h => by omega, rfl, rfl⟩)
  have e' : mX2_strongest N u (nI s) I = some v.1 := by
    unfold mX2_strongest
    rw [show mX2_strongest_8 u (nI s) I N 0 1000000 0 = some v.1 from e, ob_some]
  rcases hP with ⟨a1, -⟩ | ⟨t, a1, a2, a3, a4, a5, a6⟩
  · exfalso
    apply h0
    apply Nat.eq_of_testBit_eq
    intro i
    rw [Nat.zero_testBit]
    cases h1 : s.testBit i with
    | false => rfl
    | true => rw [a1 i (tb_lt hs h1)] at h1; cases h1
  · exact ⟨t, by rw [e', a3], a1, a2, a6⟩
theorem c_drop {I : gI} {σ : St} (hn : WfN ν) (hI : NetC ν I) (hs : CS ν u σ I) (hN : 100 ≤ N) (hu : 35 < u) (s : Nat) : ∃ I', mX2_drop N u (nI s) I = some I' ∧ Fr [u + 1] I I' ∧ CS ν u (dpW σ s) I' := by
  have htn := hn.2.2.2.1
  obtain ⟨I', hP, e⟩ := loopP (F := fun n s' i => mX2_drop_2 u (nI s) n i s') (b := ν.tn) (out := id)
    (P := fun k s' => Fr [u + 1] I s' ∧ ∀ t, t < ν.tn → s' (u + 1) t = if t < k ∧ s.testBit t = true then 0 else I (u + 1) t)
    (fun n s' hP => by
      show mX2_drop_2 u (nI s) (n + 1) (nI ν.tn) s' = some s'
      rw [mX2_drop_2, (hI.fr hP.1 (by simp; omega)).2.2.1, if_pos (nI_le (Nat.le_refl _) (by omega))])
    (fun n k s' hk hP => by
      have key : mX2_drop_2 u (nI s) (n + 1) (nI k) s' = mX2_drop_2 u (nI s) n (nI (k + 1)) (if s.testBit k = true then upd2 s' (u + 1) k 0 else s') := by
        rw [mX2_drop_2, (hI.fr hP.1 (by simp; omega)).2.2.1, if_neg (nI_ge hk (by omega)), ck_n (by omega) (by decide), nI_clamp (by omega), nI_1]
        cases h1 : s.testBit k with
        | false => rw [if_pos ((cb0 (by omega) _).mpr (by rw [b_nI (by omega)]; exact h1)), if_neg (by decide)]
        | true => rw [if_neg (fun h => by rw [cb0 (by omega), b_nI (by omega), h1] at h; cases h), if_pos rfl]
      refine ⟨_, key, ?_, fun t ht => ?_⟩
      · split
        · exact hP.1.u2 (by simp)
        · exact hP.1
      · by_cases h1 : s.testBit k = true
        · rw [if_pos h1]
          by_cases e : t = k
          · subst e; rw [u2_at, if_pos ⟨by omega, h1⟩]
          · rw [u2_ne (by omega), hP.2 t ht]
            by_cases h2 : t < k ∧ s.testBit t = true
            · rw [if_pos h2, if_pos ⟨by omega, h2.2⟩]
            · rw [if_neg h2, if_neg (fun h => h2 ⟨by omega, h.2⟩)]
        · rw [if_neg h1, hP.2 t ht]
          by_cases h2 : t < k ∧ s.testBit t = true
          · rw [if_pos h2, if_pos ⟨by omega, h2.2⟩]
          · rw [if_neg h2, if_neg (fun h => h2 ⟨by
              by_cases e : t = k
              · subst e; exact absurd h.2 h1
              · omega, h.2⟩)])
    N 0 I (Nat.zero_le _) (by omega) ⟨Fr.rf, fun t _ => by rw [if_neg (by omega)]⟩
  refine ⟨I', ?_, hP.1, ?_, fun t ht => ⟨?_, ?_⟩⟩
  · unfold mX2_drop
    rw [show mX2_drop_2 u (nI s) N 0 I = some I' from e, ob_some]
  · rw [hP.1 u (by simp)]; exact hs.1
  · rw [hP.2 t ht, dpW_w]
    by_cases h : s.testBit t = true
    · rw [if_pos ⟨ht, h⟩, if_pos h]; rfl
    · rw [if_neg (fun e => h e.2), if_neg h]; exact (hs.2 t ht).1
  · rw [hP.1 (u + 2) (by simp)]; exact (hs.2 t ht).2
theorem CS_st {I : gI} {σ : St} {t : Nat} {q : List Nat} (hs : CS ν u σ I) : CS ν u (stW σ t q) (upd2 I (u + 1) t (wb q)) := by
  refine ⟨by rw [u2_c (by omega)]; exact hs.1, fun i hi => ⟨?_, by rw [u2_c (by omega)]; exact (hs.2 i hi).2⟩⟩
  rw [stW_w]
  by_cases e : i = t
  · subst e; rw [u2_at, if_pos rfl]
  · rw [u2_ne (by omega), if_neg e]; exact (hs.2 i hi).1
theorem wb_0 (hn : WfN ν) {q : List Nat} (hq : ∀ l ∈ q, l < ν.ln) : wb q = 0 ↔ q = [] := by
  have hln := hn.2.2.1
  constructor
  · intro h
    cases q with
    | nil => rfl
    | cons x q =>
      exfalso
      have hx := hq x List.mem_cons_self
      have := b_wb (i := x) (by omega) (x :: q) (fun l hl => by have := hq l hl; omega)
      rw [h, b_0] at this
      simp at this
  · intro h; rw [h]; rfl
theorem bst_ln {σ : St} {t bd p : Nat} {q : List Nat} (h : bst ν σ t bd p q) : ∀ l ∈ q, l < ν.ln := by
  rcases h with ⟨rfl, -⟩ | h
  · intro l hl; cases hl
  · exact chn_lt h.1.1
theorem bst_isB {σ : St} {t bd p : Nat} {q : List Nat} (h : bst ν σ t bd p q) (hq : q ≠ []) : isB ν (fit ν σ t bd p) (fun l => pl ν σ t l 7) (ν.T t 0) (ν.T t 1) (ν.T t 6) q := by
  rcases h with ⟨e, -⟩ | h
  · exact absurd e hq
  · exact h
theorem st_fit {σ : St} {t bd : Nat} {q : List Nat} (hq : isB ν (fit ν σ t bd (ν.T t 3)) (fun l => pl ν σ t l 7) (ν.T t 0) (ν.T t 1) (ν.T t 6) q) : ∀ l ∈ (stW σ t q).w t, (bd : Int) ≤ pl ν (stW σ t q) t l (ν.T t 3) := by
  intro l hl
  rw [stW_w, if_pos rfl] at hl
  rw [pl_st]
  exact (opn_fit (hq.1.2.2.2 l hl)).2
set_option maxHeartbeats 1000000 in
theorem c_settle7 (hn : WfN ν) (hN : 1000 ≤ N) (hu : 35 < u) : ∀ (n k s : Nat) (σ : St) (I : gI) (fu : Nat) (v : Int32), Gd ν σ → NetC ν I → CS ν u σ I → Wt ν σ s k n → n ≤ 9 → n < fu → ∃ c σ' I', mX2_settle_7 N u fu (nI s) v (nI (9 - n)) I = some (v + nI c, I') ∧ Stl ν n s σ c σ' ∧ CS ν u σ' I' ∧ Gd ν σ' ∧ Fr [30, 31, 32, 33, u + 1] I I' ∧ σ'.bd = σ.bd ∧ σ'.up = σ.up
  | n, k, s, σ, I, 0, v, _, _, _, _, _, h => by omega
  | 0, k, s, σ, I, fu + 1, v, hg, hI, hs, hw, _, _ => by
    refine ⟨0, σ, I, ?_, ⟨Wt_0 (n := 0) hw, rfl, rfl⟩, hs, hg, Fr.rf, rfl, rfl⟩
    rw [mX2_settle_7, show (9 : Int32) = nI 9 from rfl, if_pos (nI_le (by omega) (by omega)), nI_0', Int32.add_zero]
  | n + 1, k, s, σ, I, fu + 1, v, hg, hI, hs, hw, hn9, hfu => by
    have htn := hn.2.2.2.1
    have hpow : (2 : Nat) ^ ν.tn ≤ 2 ^ 9 := Nat.pow_le_pow_right (by decide) htn
    have h29 : (2 : Nat) ^ 9 = 512 := rfl
    have hs0 := hw.1
    have hww := hg.wf hn
    by_cases h0 : s = 0
    · refine ⟨0, σ, I, ?_, Or.inl ⟨h0, rfl, rfl⟩, hs, hg, Fr.rf, rfl, rfl⟩
      rw [mX2_settle_7, show (9 : Int32) = nI 9 from rfl, if_neg (nI_ge (by omega) (by omega)), h0, nI_0', if_pos rfl, Int32.add_zero]
    · obtain ⟨t, et, ht⟩ := c_stg (N := N) (u := u) hn hI (by omega) hs0 h0
      have hT := hn.2.2.2.2.2 t ht.1
      obtain ⟨I7, q, eq, fq, hq⟩ := c_bw (N := N) (t := t) (bd := σ.bd t) (p := ν.T t 3) hn hI hs hu hww (by omega) ht.1 (hg.1 t ht.1).2.1 hT.2.2.2.2.2.1
      have hI7 := hI.fr fq (by simp)
      have hs7 := hs.fr fq (by simp; omega) (by simp; omega) (by simp; omega)
      have hgt : t < 9 := by have := ht.1; omega
      have nx : nI (9 - (n + 1)) + 1 = nI (9 - n) := by rw [nI_1]; congr 1; omega
      have base : mX2_settle_7 N u (fu + 1) (nI s) v (nI (9 - (n + 1))) I = if wb q = 0 then mX2_settle_7 N u fu (nI (clr s t)) v (nI (9 - n)) I7 else (Option.bind (mX2_whomToPush N u (nI t) (upd2 I7 (u + 1) t (wb q))) (fun r10 => Option.bind (mX2_drop N u r10 (upd2 I7 (u + 1) t (wb q))) (fun I12 => nm (nI (clr s t) ||| r10) (fun x14 => Option.bind (mJ6_bitCount_0f7a4 r10 I12) (fun r16 => mX2_settle_7 N u fu x14 (v + r16) (nI (9 - n)) I12))))) := by
        rw [mX2_settle_7, show (9 : Int32) = nI 9 from rfl, if_neg (nI_ge (by omega) (by omega)), if_neg (nI_ne0 (by omega) (by omega)), et, ob_some, ck_n hgt (by decide), nI_clamp (by omega), (hs.2 t ht.1).2, show I 11 t = nI (ν.T t 3) from hI.2.2.2.2 t ht.1 3 (by decide), eq, ob_some, clr_nI (by omega) ht.2.1, nx]
      by_cases hq0 : q = []
      · obtain ⟨c, σ', I', e, h1, h2, h3, h4, h5, h6⟩ := c_settle7 hn hN hu n (kt ν t + 1) (clr s t) σ I7 fu v hg hI7 hs7 (by
          have := Wt_step (s1 := 0) (σ1 := σ) (σ2 := σ) hn hw ht (Nat.pow_pos (by decide)) (fun o ho => by simp at ho)
          rw [or_0] at this
          exact this) (by omega) (by omega)
        refine ⟨c, σ', I', ?_, Or.inr ⟨h0, t, q, ht, hq, Or.inl ⟨hq0, h1⟩⟩, h2, h3, (fq.mono (by simp)).tr h4, h5, h6⟩
        rw [base, if_pos (by rw [hq0]; rfl), e]
      · have hB := bst_isB hq hq0
        have hw1 : WfW ν (stW σ t q) := WfW_st (bd := 0) (p := 0) hn hww ht.1 hB
        have fu1 : Fr [30, 31, 32, 33, u + 1] I (upd2 I7 (u + 1) t (wb q)) := (fq.mono (by simp)).u2 (by simp)
        have hI8 := hI.fr fu1 (by simp; omega)
        have hs8 : CS ν u (stW σ t q) (upd2 I7 (u + 1) t (wb q)) := CS_st hs7
        obtain ⟨s1, e1, hp⟩ := c_push (N := N) hn hI8 hs8 hw1 hN ht.1 (st_fit hB)
        obtain ⟨I12, e2, f2, hs12⟩ := c_drop (N := N) hn hI8 hs8 (by omega) hu s1
        have f12 : Fr [30, 31, 32, 33, u + 1] I I12 := fu1.tr (f2.mono (by simp))
        have hI12 := hI.fr f12 (by simp; omega)
        have hlt := hp.1
        obtain ⟨c, σ', I', e, h1, h2, h3, h4, h5, h6⟩ := c_settle7 hn hN hu n (kt ν t + 1) (clr s t ||| s1) (dpW (stW σ t q) s1) I12 fu (v + nI (pcn s1)) (Gd_step hn hg ht.1 hB hp) hI12 hs12 (Wt_step hn hw ht hp.1 hp.2.1) (by omega) (by omega)
        refine ⟨pcn s1 + c, σ', I', ?_, Or.inr ⟨h0, t, q, ht, hq, Or.inr ⟨hq0, s1, c, hp, rfl, h1⟩⟩, h2, h3, f12.tr h4, h5, h6⟩
        rw [base, if_neg (fun h => hq0 ((wb_0 hn (bst_ln hq)).mp h)), e1, ob_some, e2, ob_some, nm_n, c_bits (by omega), ob_some, nx_or, e, ← nI_add, Int32.add_assoc]
theorem c_settle (hn : WfN ν) (hN : 1000 ≤ N) (hu : 35 < u) {s : Nat} {σ : St} {I : gI} (hg : Gd ν σ) (hI : NetC ν I) (hs : CS ν u σ I) (h : s < 2 ^ ν.tn) : ∃ c σ' I', mX2_settle N u (nI s) I = some (nI c, I') ∧ Stl ν 9 s σ c σ' ∧ CS ν u σ' I' ∧ Gd ν σ' ∧ Fr [30, 31, 32, 33, u + 1] I I' ∧ σ'.bd = σ.bd ∧ σ'.up = σ.up := by
  have htn := hn.2.2.2.1
  obtain ⟨c, σ', I', e, r⟩ := c_settle7 (N := N) hn hN hu 9 0 s σ I N 0 hg hI hs ⟨h, fun _ _ => Nat.zero_le _, by have := upn_le (ν := ν) 0; omega⟩ (by omega) (by omega)
  refine ⟨c, σ', I', ?_, r⟩
  unfold mX2_settle
  rw [show mX2_settle_7 N u N (nI s) 0 0 I = some (0 + nI c, I') from e, ob_some, Int32.zero_add]
end SettleC
