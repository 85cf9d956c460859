/-! the plan -/
def rk (ν : Nt) (t : Nat) : Nat := ν.T t 3 * 8 + ν.T t 4
def sng (ν : Nt) (s t : Nat) : Prop := t < ν.tn ∧ s.testBit t = true ∧ ∀ o, o < ν.tn → s.testBit o = true → rk ν t < rk ν o ∨ (rk ν t = rk ν o ∧ t ≤ o)
/-- one after the other takes its best way, by the pools at 7 -/
def plnR (ν : Nt) : Nat → Nat → St → St → Prop
  | 0, s, σ, σ' => s = 0 ∧ σ' = σ
  | n + 1, s, σ, σ' => s ≠ 0 ∧ ∃ t q, sng ν s t ∧ bst ν σ t (σ.bd t) 7 q ∧ plnR ν n (clr s t) (stW σ t q) σ'
section Plan
variable {ν : Nt} {σ : St} {N u : Nat}
theorem rk_le (hn : WfN ν) {t : Nat} (ht : t < ν.tn) : rk ν t ≤ 63 := by
  have hT := hn.2.2.2.2.2 t ht
  unfold rk
  omega
theorem c_sng {I : gI} (hn : WfN ν) (hI : NetC ν I) (hN : 100 ≤ N) {s : Nat} (hs : s < 2 ^ ν.tn) (h0 : s ≠ 0) : ∃ t, mX3_firstOf N (nI s) I = some (nI t) ∧ sng ν s t := by
  have htn := hn.2.2.2.1
  obtain ⟨v, hP, e⟩ := loopP (F := fun n (v : Int32 × Int32) i => mX3_firstOf_8 (nI s) I n v.1 v.2 i) (b := ν.tn) (out := fun v => v.1)
    (P := fun k v => ((∀ o, o < k → s.testBit o = false) ∧ v.1 = 0 ∧ v.2 = nI 1000000) ∨ ∃ t, t < k ∧ s.testBit t = true ∧ v.1 = nI t ∧ v.2 = nI (rk ν t) ∧ rk ν t ≤ 63 ∧ ∀ o, o < k → s.testBit o = true → rk ν t < rk ν o ∨ (rk ν t = rk ν o ∧ t ≤ o))
    (fun n v _ => by
      show mX3_firstOf_8 (nI s) I (n + 1) v.1 v.2 (nI ν.tn) = some v.1
      rw [mX3_firstOf_8, hI.2.2.1, if_pos (nI_le (Nat.le_refl _) (by omega))])
    (fun n k v hk hP => by
      have hT := rk_le hn hk
      have key : mX3_firstOf_8 (nI s) I (n + 1) v.1 v.2 (nI k) = if s.testBit k = true then (if v.2 ≤ nI (rk ν k) then mX3_firstOf_8 (nI s) I n v.1 v.2 (nI (k + 1)) else mX3_firstOf_8 (nI s) I n (nI k) (nI (rk ν k)) (nI (k + 1))) else mX3_firstOf_8 (nI s) I n v.1 v.2 (nI (k + 1)) := by
        rw [mX3_firstOf_8, hI.2.2.1, if_neg (nI_ge hk (by omega)), ck_n (by omega) (by decide), nI_clamp (by omega), show I 11 k = nI (ν.T k 3) from hI.2.2.2.2 k hk 3 (by decide), show I 12 k = nI (ν.T k 4) from hI.2.2.2.2 k hk 4 (by decide), show (8 : Int32) = nI 8 from rfl, nI_mul, nI_add, show ν.T k 3 * 8 + ν.T k 4 = rk ν k from rfl, nI_1]
        cases h1 : s.testBit k with
        | false => rw [if_pos ((cb0 (by omega) _).mpr (by rw [b_nI (by omega)]; exact h1)), if_neg (by decide)]
        | true => rw [if_neg (fun h => by rw [cb0 (by omega), b_nI (by omega), h1] at h; cases h), if_pos rfl]
      cases h1 : s.testBit k with
      | false =>
        rw [h1, if_neg (by decide)] at key
        refine ⟨v, key, ?_⟩
        rcases hP with ⟨a1, a2⟩ | ⟨t, a1, a2, a3, a4, a5, a6⟩
        · refine Or.inl ⟨fun o ho => ?_, a2⟩
          by_cases e : o = k
          · subst e; exact h1
          · exact a1 o (by omega)
        · refine Or.inr ⟨t, by omega, a2, a3, a4, a5, fun o ho h2 => ?_⟩
          by_cases e : o = k
          · subst e; rw [h1] at h2; cases h2
          · exact a6 o (by omega) h2
      | true =>
        rw [h1, if_pos rfl] at key
        rcases hP with ⟨a1, a2, a3⟩ | ⟨t, a1, a2, a3, a4, a5, a6⟩
        · rw [a3, if_neg (nI_ge (by omega) (by omega)), ← a3] at key
          refine ⟨(nI k, nI (rk ν k)), key, Or.inr ⟨k, by omega, h1, rfl, rfl, by omega, fun o ho h2 => ?_⟩⟩
          by_cases e : o = k
          · subst e; exact Or.inr ⟨rfl, Nat.le_refl _⟩
          · rw [a1 o (by omega)] at h2; cases h2
        · by_cases h3 : rk ν t ≤ rk ν k
          · rw [a4, if_pos (nI_le h3 (by omega)), ← a4] at key
            refine ⟨v, key, Or.inr ⟨t, by omega, a2, a3, a4, a5, fun o ho h2 => ?_⟩⟩
            by_cases e : o = k
            · subst e; omega
            · exact a6 o (by omega) h2
          · rw [a4, if_neg (nI_ge (by omega) (by omega)), ← a4] at key
            refine ⟨(nI k, nI (rk ν k)), key, Or.inr ⟨k, by omega, h1, rfl, rfl, by omega, fun o ho h2 => ?_⟩⟩
            by_cases e : o = k
            · subst e; exact Or.inr ⟨rfl, Nat.le_refl _⟩
            · have := a6 o (by omega) h2
              omega)
    N 0 (0, nI 1000000) (Nat.zero_le _) (by omega) (Or.inl ⟨fun o h => by omega, rfl, rfl⟩)
  have e' : mX3_firstOf N (nI s) I = some v.1 := by
    unfold mX3_firstOf
    rw [show mX3_firstOf_8 (nI s) I N 0 1000000 0 = some v.1 from e, ob_some]
  rcases hP with ⟨a1, -⟩ | ⟨t, a1, a2, a3, a4, a5, a6⟩
  · exfalso
    apply h0
    apply Nat.eq_of_testBit_eq
    intro i
    rw [Nat.zero_testBit]
    cases h1 : s.testBit i with
    | false => rfl
    | true => rw [a1 i (tb_lt hs h1)] at h1; cases h1
  · exact ⟨t, by rw [e', a3], a1, a2, a6⟩
theorem m_soon {I : gI} (hn : WfN ν) (hI : NetM ν I) {k t : Nat} (hk : k < ν.tn) (ht : t < ν.tn) : mX11_isSooner (nI k) (nI t) I = some (if rk ν t ≤ rk ν k then 0 else 1) := by
  have hT := hn.2.2.2.2.2 t ht
  have hK := hn.2.2.2.2.2 k hk
  unfold mX11_isSooner
  rw [m_setup hn hI hk, ob_some, m_setup hn hI ht, ob_some, m_hold hn hI hk, ob_some, m_hold hn hI ht, ob_some, ob_some, ob_some]
  unfold rk
  by_cases h1 : ν.T k 3 = ν.T t 3
  · rw [if_pos (by rw [h1])]
    by_cases h2 : ν.T t 4 ≤ ν.T k 4
    · rw [if_pos (nI_le h2 (by omega)), if_pos (by omega)]
    · rw [if_neg (nI_ge (by omega) (by omega)), if_neg (by omega)]
  · rw [if_neg (fun h => h1 ((nI_eq (by omega) (by omega)).mp h))]
    by_cases h2 : ν.T t 3 ≤ ν.T k 3
    · rw [if_pos (nI_le h2 (by omega)), if_pos (by omega)]
    · rw [if_neg (nI_ge (by omega) (by omega)), if_neg (by omega)]
theorem m_sng {I : gI} (hn : WfN ν) (hI : NetM ν I) (hN : 100 ≤ N) {s : Nat} (hs : s < 2 ^ ν.tn) (h0 : s ≠ 0) : ∃ t, mX11_laysPlan_47 (nI s) I N (-1) 0 = some (nI t) ∧ sng ν s t := by
  have htn := hn.2.2.2.1
  obtain ⟨v, hP, e⟩ := loopP (F := fun n (v : Int32) i => mX11_laysPlan_47 (nI s) I n v i) (b := ν.tn) (out := id)
    (P := fun k v => ((∀ o, o < k → s.testBit o = false) ∧ v = -1) ∨ ∃ t, t < k ∧ s.testBit t = true ∧ v = nI t ∧ ∀ o, o < k → s.testBit o = true → rk ν t < rk ν o ∨ (rk ν t = rk ν o ∧ t ≤ o))
    (fun n v _ => by
      show mX11_laysPlan_47 (nI s) I (n + 1) v (nI ν.tn) = some v
      rw [mX11_laysPlan_47, hI.2.2.1, if_pos (nI_le (Nat.le_refl _) (by omega))])
    (fun n k v hk hP => by
      have key : mX11_laysPlan_47 (nI s) I (n + 1) v (nI k) = if s.testBit k = true then (if v = -1 then mX11_laysPlan_47 (nI s) I n (nI k) (nI (k + 1)) else Option.bind (mX11_isSooner (nI k) v I) (fun r10 => if r10 = 0 then mX11_laysPlan_47 (nI s) I n v (nI (k + 1)) else mX11_laysPlan_47 (nI s) I n (nI k) (nI (k + 1)))) else mX11_laysPlan_47 (nI s) I n v (nI (k + 1)) := by
        rw [mX11_laysPlan_47, hI.2.2.1, if_neg (nI_ge hk (by omega)), nI_1]
        cases h1 : s.testBit k with
        | false => rw [if_neg (fun h => by rw [mb1 (by omega), b_nI (by omega), h1] at h; cases h), if_neg (by decide)]
        | true => rw [if_pos ((mb1 (by omega) _).mpr (by rw [b_nI (by omega)]; exact h1)), if_pos rfl]
      cases h1 : s.testBit k with
      | false =>
        rw [h1, if_neg (by decide)] at key
        refine ⟨v, key, ?_⟩
        rcases hP with ⟨a1, a2⟩ | ⟨t, a1, a2, a3, a6⟩
        · refine Or.inl ⟨fun o ho => ?_, a2⟩
          by_cases e : o = k
          · subst e; exact h1
          · exact a1 o (by omega)
        · refine Or.inr ⟨t, by omega, a2, a3, fun o ho h2 => ?_⟩
          by_cases e : o = k
          · subst e; rw [h1] at h2; cases h2
          · exact a6 o (by omega) h2
      | true =>
        rw [h1, if_pos rfl] at key
        rcases hP with ⟨a1, a2⟩ | ⟨t, a1, a2, a3, a6⟩
        · rw [if_pos a2] at key
          refine ⟨nI k, key, Or.inr ⟨k, by omega, h1, rfl, fun o ho h2 => ?_⟩⟩
          by_cases e : o = k
          · subst e; exact Or.inr ⟨rfl, Nat.le_refl _⟩
          · rw [a1 o (by omega)] at h2; cases h2
        · rw [if_neg (by rw [a3]; exact nI_m1 (by omega)), show mX11_isSooner (nI k) v I = some (if rk ν t ≤ rk ν k then 0 else 1) by rw [a3, m_soon hn hI hk (by omega)], ob_some] at key
          by_cases h3 : rk ν t ≤ rk ν k
          · rw [if_pos h3, if_pos rfl] at key
            refine ⟨v, key, Or.inr ⟨t, by omega, a2, a3, fun o ho h2 => ?_⟩⟩
            by_cases e : o = k
            · subst e; omega
            · exact a6 o (by omega) h2
          · rw [if_neg h3, if_neg (by decide)] at key
            refine ⟨nI k, key, Or.inr ⟨k, by omega, h1, rfl, fun o ho h2 => ?_⟩⟩
            by_cases e : o = k
            · subst e; exact Or.inr ⟨rfl, Nat.le_refl _⟩
            · have := a6 o (by omega) h2
              omega)
    N 0 (-1) (Nat.zero_le _) (by omega) (Or.inl ⟨fun o h => by omega, rfl⟩)
  have e' : mX11_laysPlan_47 (nI s) I N (-1) 0 = some v := e
  rcases hP with ⟨a1, -⟩ | ⟨t, a1, a2, a3, a6⟩
  · exfalso
    apply h0
    apply Nat.eq_of_testBit_eq
    intro i
    rw [Nat.zero_testBit]
    cases h1 : s.testBit i with
    | false => rfl
    | true => rw [a1 i (tb_lt hs h1)] at h1; cases h1
  · exact ⟨t, by rw [e', a3], a1, a2, a6⟩
theorem sng_one {s t t' : Nat} (h : sng ν s t) (h' : sng ν s t') : t = t' := by
  have h1 := h.2.2 t' h'.1 h'.2.1
  have h2 := h'.2.2 t h.1 h.2.1
  omega
theorem pcn_0 : ∀ s, s < 512 → pcn s = 0 → s = 0 := by decide +kernel
theorem pcn_clr {s t : Nat} (ht : t < 16) (h : s.testBit t = true) : pcn s = pcn (clr s t) + 1 := by
  rw [pcn_sum (a := s) (b := clr s t) (d := 2 ^ t) (fun i _ => ?_), pcn_pow t ht]
  rw [clr_tb h, Nat.testBit_two_pow]
  by_cases e : t = i
  · subst e; simp [h]
  · have : ¬ i = t := fun h => e h.symm
    simp [e, this]
theorem WfW_stq (hn : WfN ν) (hw : WfW ν σ) {t bd p : Nat} {q : List Nat} {σ1 : St} (ht : t < ν.tn) (hq : bst ν σ1 t bd p q) : WfW ν (stW σ t q) := by
  rcases bst_isP hq with e | e
  · intro i hi
    rw [stW_w, stW_bd]
    refine ⟨(hw i hi).1, ?_⟩
    by_cases h : i = t
    · rw [if_pos h, e]; exact ⟨by simp, fun l hl => by cases hl⟩
    · rw [if_neg h]; exact (hw i hi).2
  · have hT := hn.2.2.2.2.2 t ht
    intro i hi
    rw [stW_w, stW_bd]
    refine ⟨(hw i hi).1, ?_⟩
    by_cases h : i = t
    · rw [if_pos h]; exact ⟨by have := e.2.2.1; omega, chn_lt e.1⟩
    · rw [if_neg h]; exact (hw i hi).2
theorem c_pl35 (hn : WfN ν) (hN : 1000 ≤ N) : ∀ (m k s fu : Nat) (σ : St) (I : gI), k + m = ν.tn → m < fu → pcn s = m → s < 2 ^ ν.tn → WfW ν σ → NetC ν I → CS ν 44 σ I → (∀ t, t < ν.tn → I 38 t = nI (σ.bd t)) → ∃ I' π, mX3_makePlan_35 N fu (nI s) (nI k) I = some I' ∧ plnR ν m s σ π ∧ CS ν 44 π I' ∧ Fr [30, 31, 32, 33, 45] I I' := by
  have htn := hn.2.2.2.1
  have hpow : (2 : Nat) ^ ν.tn ≤ 2 ^ 9 := Nat.pow_le_pow_right (by decide) htn
  have h29 : (2 : Nat) ^ 9 = 512 := rfl
  intro m
  induction m with
  | zero =>
    intro k s fu σ I hk hf hp hs hw hI hc h38
    obtain ⟨n, rfl⟩ : ∃ n, fu = n + 1 := ⟨fu - 1, by omega⟩
    refine ⟨I, σ, ?_, ⟨pcn_0 s (by omega) hp, rfl⟩, hc, Fr.rf⟩
    rw [mX3_makePlan_35, hI.2.2.1, if_pos (nI_le (by omega) (by omega))]
  | succ m ih =>
    intro k s fu σ I hk hf hp hs hw hI hc h38
    obtain ⟨n, rfl⟩ : ∃ n, fu = n + 1 := ⟨fu - 1, by omega⟩
    have hs0 : s ≠ 0 := fun e => by rw [e] at hp; rw [show pcn 0 = 0 by decide] at hp; omega
    obtain ⟨t, et, ht⟩ := c_sng (N := N) hn hI (by omega) hs hs0
    have ht1 := ht.1
    obtain ⟨I7, q, eq, fq, hq⟩ := c_bw (N := N) (u := 44) (t := t) (bd := σ.bd t) (p := 7) hn hI hc (by omega) hw (by omega) ht1 (hw t ht1).1 (by omega)
    have hc7 := hc.fr fq (by simp) (by simp) (by simp)
    have fu1 : Fr [30, 31, 32, 33, 45] I (upd2 I7 45 t (wb q)) := (fq.mono (by simp)).u2 (by simp)
    have hpc := pcn_clr (show t < 16 by omega) ht.2.1
    obtain ⟨I', π, e', hp', hc', f'⟩ := ih (k + 1) (clr s t) n (stW σ t q) (upd2 I7 45 t (wb q)) (by omega) (by omega) (by omega) (clr_lt hs ht1) (WfW_stq hn hw ht1 hq) (hI.fr fu1 (by simp)) (CS_st hc7) (fun i hi => by rw [fu1 38 (by simp)]; exact h38 i hi)
    refine ⟨I', π, ?_, ⟨hs0, t, q, ht, hq, hp'⟩, hc', fu1.tr f'⟩
    rw [mX3_makePlan_35, hI.2.2.1, if_neg (nI_ge (by omega) (by omega)), et, ob_some, ck_n (by omega) (by decide), nI_clamp (by omega), h38 t ht1, show (7 : Int32) = nI 7 from rfl, eq, ob_some]
    dsimp only
    rw [clr_nI (by omega) ht.2.1, nI_1, e']
theorem full_n : ∀ n, n ≤ 9 → ((1 : Int32) <<< (nI n &&& 31)) - 1 = nI (2 ^ n - 1) ∧ pcn (2 ^ n - 1) = n := by decide +kernel
theorem c_plan {I : gI} (hn : WfN ν) (g : Gd ν σ) (hI : NetC ν I) (hs : CS ν 36 σ I) (hN : 1000 ≤ N) : ∃ I' π, mX3_makePlan N I = some I' ∧ plnR ν ν.tn (2 ^ ν.tn - 1) (dpW σ 511) π ∧ CS ν 44 π I' ∧ CS ν 36 σ I' ∧ Fr [30, 31, 32, 33, 44, 45, 46] I I' := by
  have htn := hn.2.2.2.1
  have hw := g.wf hn
  have hpos : 0 < (2 : Nat) ^ ν.tn := Nat.pow_pos (by decide)
  obtain ⟨I1, e1, f1, cs1⟩ := c_copy (N := N) (u := 44) (w := 36) hn (by omega) (by omega) hs
  have c1 := hI.fr f1 (by simp)
  obtain ⟨I3, e3, f3, cs3⟩ := c_drop (N := N) (u := 44) hn c1 cs1 (by omega) (by omega) 511
  have c3 := c1.fr f3 (by simp)
  have cs36 := (hs.fr f1 (by simp) (by simp) (by simp)).fr f3 (by simp) (by simp) (by simp)
  obtain ⟨I9, π, e9, hp, cs9, f9⟩ := c_pl35 (N := N) hn hN ν.tn 0 (2 ^ ν.tn - 1) N (dpW σ 511) I3 (by omega) (by omega) (full_n _ htn).2 (by omega) (WfW_dp hw _) c3 cs3 (fun t ht => (cs36.2 t ht).2)
  refine ⟨I9, π, ?_, hp, cs9, cs36.fr f9 (by simp) (by simp) (by simp), ((f1.mono (by simp)).tr (f3.mono (by simp))).tr (f9.mono (by simp))⟩
  unfold mX3_makePlan
  rw [e1, ob_some, show mX2_drop N 44 511 I1 = some I3 from e3, ob_some, c3.2.2.1, (full_n _ htn).1, show mX3_makePlan_35 N N (nI (2 ^ ν.tn - 1)) 0 I3 = some I9 from e9, ob_some]
/-! the reference -/
theorem m_pw {I : gI} (hn : WfN ν) (hI : NetM ν I) (hs : MS ν 317 82 σ I) (hw : WfW ν σ) (hN : 100000000000 ≤ N) {t : Nat} (ht : t < ν.tn) (h0 : σ.w t = []) : ∃ I1 I2 q, bst ν σ t (σ.bd t) 7 q ∧ mX11_laysPools N 82 (-1) (nI (σ.bd t)) 7 (nI (ν.T t 5)) I = some I1 ∧ FB I I1 ∧ NetM ν I1 ∧ FB I1 I2 ∧ ((q ≠ [] ∧ mX11_isFound N (nI (ν.T t 0)) (nI (ν.T t 1)) (nI (ν.T t 6)) I1 = some (1, I2) ∧ I2 310 32 = nI q.length ∧ ∀ k, (hk : k < q.length) → I2 322 k = nI q[k]) ∨ (q = [] ∧ mX11_isFound N (nI (ν.T t 0)) (nI (ν.T t 1)) (nI (ν.T t 6)) I1 = some (0, I2))) := by
  have htn := hn.2.2.2.1
  have hT := hn.2.2.2.2.2 t ht
  have epl : ∀ l, pl ν σ 99 l 7 = pl ν σ t l 7 := fun l => by
    have := pl_back (ν := ν) (σ := σ) (l := l) (p := 7) ht htn (by omega)
    have h1 : bk σ t l = 0 := by unfold bk; rw [if_neg]; rw [h0]; simp
    omega
  obtain ⟨I1, e1, f1, g1⟩ := m_pools (N := N) (b := 82) (a := -1) (a5 := nI 7) (f := fun _ => 0) (want := σ.bd t) (shun := ν.T t 5) (q := fun l => decide (((σ.bd t : Nat) : Int) ≤ pl ν σ 99 l 7)) hn hI hs hw (by omega) (by omega) (Or.inl ⟨rfl, rfl⟩) (hw t ht).1 hT.2.2.2.2.2.2.2.1 (fun l hl => Or.inr ⟨7, by omega, rfl, by rw [Int.add_zero]⟩)
  have hI1 := hI.fr f1 (by simp) (by simp) (by simp)
  have g1' : GoM ν (fit ν σ t (σ.bd t) 7) (fun l => if l < ν.ln then pl ν σ t l 7 else 0) I1 := g1.congr (fun l hl => by
    unfold fit opn
    rw [epl]) (fun l hl => by rw [if_pos hl, epl]; omega)
  obtain ⟨I2, f2, -, h2⟩ := m_bestw (N := N) (a := ν.T t 0) (z := ν.T t 1) (h := ν.T t 6) hn hI1 g1' hT.1 hT.2.1 hT.2.2.1 hT.2.2.2.2.2.2.2.2.1 hT.2.2.2.2.2.2.2.2.2 (fun l => by
    by_cases hl : l < ν.ln
    · have := pl_sml (x := t) (p := 7) hn hw hl
      rw [if_pos hl]; omega
    · rw [if_neg hl]; omega) hN
  rcases h2 with ⟨e2, p, hp, k1, k2, k3⟩ | ⟨e2, k1, k2⟩
  · have hp' : isB ν (fit ν σ t (σ.bd t) 7) (fun l => pl ν σ t l 7) (ν.T t 0) (ν.T t 1) (ν.T t 6) p := isB_wd (fun l hl => if_pos hl) hp
    refine ⟨I1, I2, p, Or.inr hp', e1, FB.fr f1, hI1, FB.fm f2, Or.inl ⟨fun e => ?_, e2, k1, k3⟩⟩
    subst e
    exact hT.2.2.1 hp.1.1
  · exact ⟨I1, I2, [], Or.inl ⟨rfl, k2⟩, e1, FB.fr f1, hI1, FB.fm f2, Or.inr ⟨rfl, e2⟩⟩
theorem stW_nil {t : Nat} (h : σ.w t = []) : stW σ t [] = σ := by
  show ((fun i => if i = t then [] else σ.w i, σ.bd, σ.up) : St) = σ
  have : (fun i => if i = t then [] else σ.w i) = σ.w := by
    funext i
    by_cases e : i = t
    · rw [if_pos e, e, h]
    · rw [if_neg e]
  rw [this]
set_option maxHeartbeats 1000000 in
theorem m_pl39 (hn : WfN ν) (hN : 100000000000 ≤ N) : ∀ (m s fu : Nat) (σ π : St) (I : gI), m < fu → s < 2 ^ ν.tn → WfW ν σ → NetM ν I → MS ν 317 82 σ I → (∀ t, t < ν.tn → s.testBit t = true → σ.w t = []) → (∀ t, t < ν.tn → I 317 (1 + t) = nI (σ.bd t)) → plnR ν m s σ π → ∃ I', mX11_laysPlan_39 N fu (nI s) I = some I' ∧ MS ν 317 82 π I' ∧ WfW ν π ∧ FS 82 I I' := by
  have htn := hn.2.2.2.1
  have hpow : (2 : Nat) ^ ν.tn ≤ 2 ^ 9 := Nat.pow_le_pow_right (by decide) htn
  have h29 : (2 : Nat) ^ 9 = 512 := rfl
  intro m
  induction m with
  | zero =>
    intro s fu σ π I hf hs hw hI hM h0 hb hp
    obtain ⟨n, rfl⟩ : ∃ n, fu = n + 1 := ⟨fu - 1, by omega⟩
    obtain ⟨rfl, rfl⟩ := hp
    exact ⟨I, by rw [mX11_laysPlan_39, if_pos (show nI 0 = 0 from rfl)], hM, hw, FS.rf⟩
  | succ m ih =>
    intro s fu σ π I hf hs hw hI hM h0 hb hp
    obtain ⟨n, rfl⟩ : ∃ n, fu = n + 1 := ⟨fu - 1, by omega⟩
    obtain ⟨hs0, t, q, ht, hq, hp⟩ := hp
    have ht1 := ht.1
    have hT := hn.2.2.2.2.2 t ht1
    obtain ⟨t', et, ht'⟩ := m_sng (N := N) hn hI (by omega) hs hs0
    obtain rfl := sng_one ht ht'
    obtain ⟨I1, I2, q', hq', e1, f1, hI1, f2, hres⟩ := m_pw (N := N) hn hI hM hw hN ht1 (h0 t ht1 ht.2.1)
    obtain rfl := bst_one hn ht1 hq hq'
    have f12 := f1.tr f2
    have base : mX11_laysPlan_39 N (n + 1) (nI s) I = Option.bind (mX11_isFound N (nI (ν.T t 0)) (nI (ν.T t 1)) (nI (ν.T t 6)) I1) (fun (r21, I22) => if r21 = 0 then (mX11_laysPlan_39 N n (nI (clr s t)) I22) else (Option.bind (mX11_takes N 82 (nI t) I22) (fun I25 => mX11_laysPlan_39 N n (nI (clr s t)) I25))) := by
      rw [mX11_laysPlan_39, if_neg (nI_ne0 (by omega) (by omega)), et, ob_some, ix1', show (7 : Int32) * nI t + 5 = nI (7 * t + 5) from n7 t 5, show (7 : Int32) * nI t + 1 = nI (7 * t + 1) from n7 t 1, show (7 : Int32) * nI t + 6 = nI (7 * t + 6) from n7 t 6, n7', ck_n (by omega) (by decide), ck_n (by omega) (by decide), nI_clamp (by omega), nI_clamp (by omega), hb t ht1, hI.2.2.2.2 t ht1 5 (by decide), e1, ob_some, ck_n (by omega) (by decide), ck_n (by omega) (by decide), ck_n (by omega) (by decide), nI_clamp (by omega), nI_clamp (by omega), nI_clamp (by omega), show I1 315 (7 * t) = nI (ν.T t 0) from hI1.2.2.2.2 t ht1 0 (by decide), hI1.2.2.2.2 t ht1 1 (by decide), hI1.2.2.2.2 t ht1 6 (by decide), clr_nI (by omega) ht.2.1]
    have hcl : ∀ i, i < ν.tn → (clr s t).testBit i = true → (stW σ t q).w i = [] := fun i hi h => by
      rw [clr_tb ht.2.1] at h
      simp at h
      rw [stW_w, if_neg h.2]
      exact h0 i hi h.1
    have hM2 : MS ν 317 82 σ I2 := hM.c (f12.1 317 (by simp))
    rcases hres with ⟨hne, e2, k1, k2⟩ | ⟨he, e2⟩
    · have hq7 : q.length ≤ 7 := by
        rcases bst_isP hq with e | e
        · exact absurd e hne
        · have := e.2.2.1; omega
      obtain ⟨I3, e3, f3, z3, hM3⟩ := m_takes (N := N) (b := 82) hn (hI.fb f12) hM2 hw (by omega) (by omega) ht1 hne hq7 k1 k2
      have f13 : FS 82 I I3 := (FS.fb f12).tr f3
      obtain ⟨I', e', hM', hw', f'⟩ := ih (clr s t) n (stW σ t q) π I3 (by omega) (clr_lt hs ht1) (WfW_stq hn hw ht1 hq) (hI.fs f13) hM3 hcl (fun i hi => by rw [f13.2.2 (1 + i) (by omega)]; exact hb i hi) hp
      refine ⟨I', ?_, hM', hw', f13.tr f'⟩
      rw [base, e2, ob_some]
      dsimp only
      rw [if_neg (show ¬ (1 : Int32) = 0 by decide), show mX11_takes N 82 (nI t) I2 = some I3 from e3, ob_some, e']
    · subst he
      have est := stW_nil (h0 t ht1 ht.2.1)
      rw [est] at hp hcl
      obtain ⟨I', e', hM', hw', f'⟩ := ih (clr s t) n σ π I2 (by omega) (clr_lt hs ht1) hw (hI.fb f12) hM2 hcl (fun i hi => by rw [f12.1 317 (by simp)]; exact hb i hi) hp
      refine ⟨I', ?_, hM', hw', (FS.fb f12).tr f'⟩
      rw [base, e2, ob_some]
      dsimp only
      rw [if_pos rfl, e']
theorem m_pl6 {I : gI} (hn : WfN ν) (hI : NetM ν I) (hs : MS ν 317 82 σ I) (hw : WfW ν σ) (hN : 100 ≤ N) : ∃ I', mX11_laysPlan_6 N 0 I = some I' ∧ FS 82 I I' ∧ MS ν 317 82 (dpW σ 511) I' := by
  have htn := hn.2.2.2.1
  obtain ⟨I', hP, e⟩ := loopP (F := fun n s i => mX11_laysPlan_6 n i s) (b := ν.tn) (out := id)
    (P := fun k s => FS 82 I s ∧ MS ν 317 82 (dpW σ (2 ^ k - 1)) s)
    (fun n s hP => by
      show mX11_laysPlan_6 (n + 1) (nI ν.tn) s = some s
      rw [mX11_laysPlan_6, (hI.fs hP.1).2.2.1, if_pos (nI_le (Nat.le_refl _) (by omega))])
    (fun n k s hk hP => by
      have i92 : (92 : Int32) + nI k = nI (82 + 10 + k) := by rw [show (92 : Int32) = nI 92 from rfl, nI_add]
      refine ⟨upd2 s 317 (82 + 10 + k) (-1), ?_, hP.1.u (by omega) (by omega), ?_⟩
      · show mX11_laysPlan_6 (n + 1) (nI k) s = _
        rw [mX11_laysPlan_6, (hI.fs hP.1).2.2.1, if_neg (nI_ge hk (by omega)), i92, ck_n (by omega) (by decide), nI_clamp (by omega), nI_1]
      · have := ms_off hn (WfW_dp hw (2 ^ k - 1)) hP.2 hk
        have e : stW (dpW σ (2 ^ k - 1)) k [] = dpW σ (2 ^ (k + 1) - 1) := by
          unfold stW dpW
          congr 1
          funext i
          show (if i = k then [] else if (2 ^ k - 1).testBit i = true then [] else σ.w i) = if (2 ^ (k + 1) - 1).testBit i = true then [] else σ.w i
          rw [Nat.testBit_two_pow_sub_one, Nat.testBit_two_pow_sub_one]
          by_cases h1 : i = k
          · subst h1; simp
          · by_cases h2 : i < k
            · have h3 : i < k + 1 := by omega
              simp [h2, h3]
            · have h3 : ¬ i < k + 1 := by omega
              simp [h1, h2, h3]
        rw [e] at this
        exact this)
    N 0 I (Nat.zero_le _) (by omega) ⟨FS.rf, by
      have e : dpW σ (2 ^ 0 - 1) = σ := by
        unfold dpW
        simp
      rw [e]; exact hs⟩
  refine ⟨I', e, hP.1, ?_⟩
  obtain ⟨h1, h2⟩ := hP.2
  refine ⟨h1, fun t ht => ?_⟩
  have ew : ∀ s, s.testBit t = true → (dpW σ s).w t = [] := fun s h => by rw [dpW_w, if_pos h]
  have e1 : (dpW σ (2 ^ ν.tn - 1)).w t = [] := ew _ (by rw [Nat.testBit_two_pow_sub_one]; simp [ht])
  have e2 : (dpW σ 511).w t = [] := ew _ (by rw [show 511 = 2 ^ 9 - 1 from rfl, Nat.testBit_two_pow_sub_one]; simp; omega)
  obtain ⟨a1, a2, a3⟩ := h2 t ht
  refine ⟨a1, ?_, fun k hk => by rw [e2] at hk; simp at hk⟩
  rw [e1] at a2
  rw [e2]
  exact a2
/-- what the plan's rows hold -/
def PlM (ν : Nt) (π : St) (I : gI) : Prop := ∀ t, t < ν.tn → I 325 t = (if π.w t = [] then -1 else nI (π.w t).length) ∧ I 327 t = wb (π.w t) ∧ ∀ k, (hk : k < (π.w t).length) → I 326 (7 * t + k) = nI (π.w t)[k]
theorem m_pl211 {I : gI} {t : Nat} (ht : t < 9) (hN : 100 ≤ N) : ∃ I', mX11_laysPlan_211 (nI t) N 0 I = some I' ∧ (∀ c, c ≠ 326 → I' c = I c) ∧ (∀ j, (j < 7 * t ∨ 7 * t + 7 ≤ j) → I' 326 j = I 326 j) ∧ ∀ k, k < 7 → I' 326 (7 * t + k) = I 317 (101 + 7 * t + k) := by
  obtain ⟨I', hP, e⟩ := loopP (F := fun n s i => mX11_laysPlan_211 (nI t) n i s) (b := 7) (out := id)
    (P := fun k s => (∀ c, c ≠ 326 → s c = I c) ∧ (∀ j, (j < 7 * t ∨ 7 * t + 7 ≤ j) → s 326 j = I 326 j) ∧ ∀ i, i < k → s 326 (7 * t + i) = I 317 (101 + 7 * t + i))
    (fun n s hP => by
      show mX11_laysPlan_211 (nI t) (n + 1) (nI 7) s = some s
      rw [mX11_laysPlan_211, if_pos (by decide)])
    (fun n k s hk hP => by
      have i1 : (101 : Int32) + 7 * nI t + nI k = nI (101 + 7 * t + k) := by rw [n7', show (101 : Int32) = nI 101 from rfl, nI_add, nI_add]
      refine ⟨upd2 s 326 (7 * t + k) (I 317 (101 + 7 * t + k)), ?_, fun c hc => by rw [u2_c hc]; exact hP.1 c hc, fun j hj => by rw [u2_ne (by omega)]; exact hP.2.1 j hj, fun i hi => ?_⟩
      · show mX11_laysPlan_211 (nI t) (n + 1) (nI k) s = _
        rw [mX11_laysPlan_211, if_neg (show ¬ (7 : Int32) ≤ nI k from nI_ge (b := 7) hk (by decide)), i1, n7, ck_n (by omega) (by decide), ck_n (by omega) (by decide), nI_clamp (by omega), nI_clamp (by omega), nm_n, hP.1 317 (by decide), nI_1]
      · by_cases h : i = k
        · rw [h, u2_at]
        · rw [u2_ne (by omega)]; exact hP.2.2 i (by omega))
    N 0 I (Nat.zero_le _) (by omega) ⟨fun _ _ => rfl, fun _ _ => rfl, fun i hi => by omega⟩
  exact ⟨I', e, hP⟩
set_option maxHeartbeats 1000000 in
theorem m_pl173 {I : gI} {π : St} (hn : WfN ν) (hI : NetM ν I) (hs : MS ν 317 82 π I) (hw : WfW ν π) (hN : 100 ≤ N) : ∃ I', mX11_laysPlan_173 N N 0 I = some I' ∧ Fr [325, 326, 327] I I' ∧ PlM ν π I' := by
  have htn := hn.2.2.2.1
  obtain ⟨I', hP, e⟩ := loopP (F := fun n s i => mX11_laysPlan_173 N n i s) (b := ν.tn) (out := id)
    (P := fun k s => Fr [325, 326, 327] I s ∧ ∀ t, t < k → s 325 t = (if π.w t = [] then -1 else nI (π.w t).length) ∧ s 327 t = wb (π.w t) ∧ ∀ k, (hk : k < (π.w t).length) → s 326 (7 * t + k) = nI (π.w t)[k])
    (fun n s hP => by
      show mX11_laysPlan_173 N (n + 1) (nI ν.tn) s = some s
      rw [mX11_laysPlan_173, (hI.fr hP.1 (by simp) (by simp) (by simp)).2.2.1, if_pos (nI_le (Nat.le_refl _) (by omega))])
    (fun n k s hk hP => by
      obtain ⟨f, hP⟩ := hP
      have hIs := hI.fr f (by simp) (by simp) (by simp)
      have hM : MS ν 317 82 π s := hs.c (f 317 (by simp))
      obtain ⟨a1, a2, a3⟩ := hM.2 k hk
      have i92 : (92 : Int32) + nI k = nI (82 + 10 + k) := by rw [show (92 : Int32) = nI 92 from rfl, nI_add]
      obtain ⟨s1, hs1⟩ : ∃ s1, s1 = upd2 s 325 k (s 317 (82 + 10 + k)) := ⟨_, rfl⟩
      obtain ⟨s2, hs2⟩ : ∃ s2, s2 = upd2 s1 327 k (wb (π.w k)) := ⟨_, rfl⟩
      have hM1 : MS ν 317 82 π s1 := hM.c (by rw [hs1, u2_c (by decide)])
      obtain ⟨s3, e3, c3, d3, b3⟩ := m_pl211 (N := N) (I := s2) (t := k) (by omega) hN
      have f3 : Fr [325, 326, 327] s s3 := fun c hc => by
        rw [c3 c (fun e => hc (by simp [e])), hs2, u2_c (fun e => hc (by simp [e])), hs1, u2_c (fun e => hc (by simp [e]))]
      have l7 := (hw k hk).2.1
      refine ⟨s3, ?_, f.tr f3, fun t ht => ?_⟩
      · show mX11_laysPlan_173 N (n + 1) (nI k) s = _
        rw [mX11_laysPlan_173, hIs.2.2.1, if_neg (nI_ge hk (by omega)), i92, ck_n (by omega) (by decide), ck_n (by omega) (by decide), nI_clamp (by omega), nI_clamp (by omega), ← hs1, show mX11_wayBits N 82 (nI k) s1 = some (wb (π.w k)) from m_wb (b := 82) hn hM1 hw (by omega) hN hk, ob_some, nm_n, ← hs2, e3, ob_some, nI_1]
      · by_cases h : t = k
        · subst h
          refine ⟨?_, ?_, fun i hi => ?_⟩
          · rw [c3 325 (by decide), hs2, u2_c (by decide), hs1, u2_at, a2]
          · rw [c3 327 (by decide), hs2, u2_at]
          · rw [b3 i (by omega), hs2, u2_c (by decide), hs1, u2_c (by decide), ← a3 i hi]
        · obtain ⟨p1, p2, p3⟩ := hP t (by omega)
          have l7t := (hw t (by omega)).2.1
          refine ⟨?_, ?_, fun i hi => ?_⟩
          · rw [c3 325 (by decide), hs2, u2_c (by decide), hs1, u2_ne (by omega)]; exact p1
          · rw [c3 327 (by decide), hs2, u2_ne (by omega), hs1, u2_c (by decide)]; exact p2
          · rw [d3 _ (by omega), hs2, u2_c (by decide), hs1, u2_c (by decide)]; exact p3 i hi)
    N 0 I (Nat.zero_le _) (by omega) ⟨Fr.rf, fun t ht => by omega⟩
  exact ⟨I', e, hP⟩
/-- what laying the plan leaves as it was -/
def FPl (I I' : gI) : Prop := (∀ c, c ∉ [310, 317, 319, 320, 321, 322, 323, 324, 325, 326, 327, 328] → I' c = I c) ∧ (∀ j, j ∉ [32, 33, 34, 35, 36] → I' 310 j = I 310 j) ∧ ∀ j, (j < 82 ∨ 164 ≤ j) → I' 317 j = I 317 j
theorem FPl.fs {I I' : gI} (h : FS 82 I I') : FPl I I' := ⟨fun c hc => h.1 c (fun h => hc (by simp at h ⊢; omega)), h.2.1, fun j hj => h.2.2 j (by omega)⟩
theorem FPl.fr {I I' : gI} (h : Fr [325, 326, 327, 328] I I') : FPl I I' := ⟨fun c hc => h c (fun h => hc (by simp at h ⊢; omega)), fun j _ => by rw [h 310 (by simp)], fun j _ => by rw [h 317 (by simp)]⟩
theorem FPl.tr {I I' I'' : gI} (h : FPl I I') (h2 : FPl I' I'') : FPl I I'' := ⟨fun c hc => (h2.1 c hc).trans (h.1 c hc), fun j hj => (h2.2.1 j hj).trans (h.2.1 j hj), fun j hj => (h2.2.2 j hj).trans (h.2.2 j hj)⟩
theorem Sm.fpl {I I' : gI} (h : FPl I I') : Sm I I' := fun c j k => by
  by_cases h0 : c = 310
  · subst h0
    exact h.2.1 j (fun hj => by unfold Kp at k; simp at hj; omega)
  · by_cases h1 : c = 317
    · subst h1
      exact h.2.2 j (by unfold Kp at k; omega)
    · rw [h.1 c (fun hc => by unfold Kp at k; simp at hc; omega)]
theorem NetM.fpl {I I' : gI} (h : NetM ν I) (hf : FPl I I') : NetM ν I' := h.sm (Sm.fpl hf)
theorem m_plan {I : gI} {π : St} (hn : WfN ν) (g : Gd ν σ) (hI : NetM ν I) (hs : MS ν 317 0 σ I) (hN : 100000000000 ≤ N) (hp : plnR ν ν.tn (2 ^ ν.tn - 1) (dpW σ 511) π) : ∃ I', mX11_laysPlan N I = some I' ∧ FPl I I' ∧ WfW ν π ∧ PlM ν π I' := by
  have htn := hn.2.2.2.1
  have hw := g.wf hn
  have hpos : 0 < (2 : Nat) ^ ν.tn := Nat.pow_pos (by decide)
  obtain ⟨I1, e1, f1, z1, h1⟩ := m_tries (N := N) hn hw (by omega) hs
  obtain ⟨I5, e5, f5, h5⟩ := m_pl6 (N := N) hn (hI.fs f1) h1 hw (by omega)
  have hI5 := (hI.fs f1).fs f5
  have f15 := f1.tr f5
  obtain ⟨I9, e9, h9, hw9, f9⟩ := m_pl39 (N := N) hn hN ν.tn (2 ^ ν.tn - 1) N (dpW σ 511) π I5 (by omega) (by omega) (WfW_dp hw _) hI5 h5 (fun t ht _ => by
      rw [dpW_w, if_pos]
      rw [show 511 = 2 ^ 9 - 1 from rfl, Nat.testBit_two_pow_sub_one]
      simp
      omega) (fun t ht => by
      rw [f15.2.2 (1 + t) (by omega)]
      have := (hs.2 t ht).1
      rwa [Nat.zero_add] at this) hp
  obtain ⟨I11, e11, f11, h11⟩ := m_pl173 (N := N) hn (hI5.fs f9) h9 hw9 (by omega)
  refine ⟨I11, ?_, ((FPl.fs f15).tr (FPl.fs f9)).tr (FPl.fr (f11.mono (by simp))), hw9, h11⟩
  unfold mX11_laysPlan
  rw [e1, ob_some, e5, ob_some, hI5.2.2.1, (full_n _ htn).1, e9, ob_some, e11, ob_some]
/-- the plan's ways are ways -/
theorem pln_way : ∀ {n s : Nat} {σ π : St}, plnR ν n s σ π → (∀ t, t < ν.tn → σ.w t = [] ∨ IsP ν (opn ν σ t) (ν.T t 0) (ν.T t 1) (ν.T t 6) (σ.w t)) → (∀ t, t < ν.tn → π.w t = [] ∨ IsP ν (opn ν σ t) (ν.T t 0) (ν.T t 1) (ν.T t 6) (π.w t)) ∧ π.bd = σ.bd ∧ π.up = σ.up
  | 0, s, σ, π, h, hw => by rw [h.2]; exact ⟨hw, rfl, rfl⟩
  | n + 1, s, σ, π, ⟨h0, t, q, ht, hq, h⟩, hw => by
    have ho : ∀ i, opn ν (stW σ t q) i = opn ν σ i := fun _ => rfl
    obtain ⟨h1, h2, h3⟩ := pln_way h (fun i hi => by
      rw [ho, stW_w]
      by_cases e : i = t
      · subst e
        rw [if_pos rfl]
        rcases bst_isP hq with e | e
        · exact Or.inl e
        · exact Or.inr ⟨e.1, e.2.1, e.2.2.1, fun l hl => (opn_fit (e.2.2.2 l hl)).1⟩
      · rw [if_neg e]; exact hw i hi)
    exact ⟨h1, h2, h3⟩
end Plan
section PlanS
variable {N : Nat}
set_option maxHeartbeats 1000000 in
theorem s_planned (hN : 100000000000 ≤ N) : St_planned N Inv := by
  intro c I J a1 a2 hc hInv
  obtain ⟨⟨ν, σ, ks, vs, hP⟩, mv⟩ := id hInv
  obtain ⟨hn, g, c1, m1, c2, m2, ac, sg, im, tp, ct⟩ := id hP
  have htn := hn.2.2.2.1
  have hww := g.wf hn
  have s0 : ∀ {K : gI}, Sm K (upd2 K 310 0 0) := Sm.rf.u0
  rcases tun_ck hn a1 with ⟨t, ht, rfl, eC, eM⟩ | ⟨eC, eM⟩
  · have hT := hn.2.2.2.2.2 t ht
    have baseM : ∀ (K : gI) x, NetM ν K → (if a2 < 0 then (some 0) else (some 1) : Option (Int32)) = some x → mX11_planned N (nI t) a2 K = Option.bind (mX11_right x 1 (upd2 K 310 0 0)) (fun (r7, I8) => if r7 = 0 then (some (0, I8)) else (Option.bind (mX11_laysPlan N I8) (fun I11 => ck (nI t) 9 (if (I11 325 (nI t).toNatClampNeg) ≤ a2 then (some ((-1), I11)) else (ck ((7 * nI t) + a2) 63 (some (I11 326 ((7 * nI t) + a2).toNatClampNeg, I11))))))) := by
      intro K x hm hx
      unfold mX11_planned
      rw [eM _ (hm.sm s0) u2_at, ob_some]
      dsimp only
      rw [if_neg (show ¬ (1 : Int32) = 0 by decide), hx, ob_some]
    rcases i_nn a2 with h | ⟨k, hk, rfl⟩
    · refine ⟨.inr xnN, I, 0, upd2 (upd2 I 310 0 0) 310 0 1, ?_, (fun E h => by cases h; rfl), ?_, u2_at, (fun v h => by cases h), hInv.sm s0.u0⟩
      · unfold mX10_planned mX10_checkPlace
        rw [eC I c1, lb_l, if_neg (fun e => by
          rw [Int32.le_iff_toInt_le] at e
          rw [Int32.lt_iff_toInt_lt] at h
          omega), lb_r]
      · rw [baseM I 0 m1 (by rw [if_pos h]), m_right0 u2_at (by decide), ob_some]
        dsimp only
        rw [if_pos rfl]
    · obtain ⟨I5, π, e5, hp, cs5, -, f5⟩ := c_plan (N := N) hn g c1 c2 (by omega)
      have c5 := c1.fr f5 (by simp)
      have sm5 : Sm I I5 := Sm.fr f5 (by simp [sc])
      have hP5 := hP.sm sm5
      have hway := (pln_way hp (fun i hi => Or.inl (by
        rw [dpW_w, if_pos]
        rw [show 511 = 2 ^ 9 - 1 from rfl, Nat.testBit_two_pow_sub_one]
        simp
        omega))).1 t ht
      have m5' : MS ν 317 0 σ (upd2 I5 310 0 0) := hP5.2.2.2.2.2.1.c (u2_c (by decide))
      obtain ⟨I11, e11, f11, hw11, p11⟩ := m_plan (N := N) hn g (hP5.2.2.2.1.sm s0) m5' hN hp
      obtain ⟨p1, p2, p3⟩ := p11 t ht
      have l7 := (hw11 t ht).2.1
      refine ⟨.inl (if h : k < (π.w t).length then nI (π.w t)[k] else -1), I5, if h : k < (π.w t).length then nI (π.w t)[k] else -1, I11, ?_, (fun E h => by cases h), ?_, (by rw [f11.2.1 0 (by simp), u2_at]; rfl), (fun v h => by cases h; rfl), hInv.sm (sm5.tr (s0.tr (Sm.fpl f11)))⟩
      · unfold mX10_planned mX10_checkPlace mX3_plannedWay
        rw [eC I c1, lb_l, if_pos (show (0 : Int32) ≤ nI k from nI_le (Nat.zero_le k) (by omega)), lb_l, e5, ob_some, ck_n (by omega) (by decide), ob_some, ck_n (by omega) (by decide), nI_clamp (by omega), show I5 45 t = wb (π.w t) from (cs5.2 t ht).1, show I5 8 t = nI (ν.T t 0) from c5.2.2.2.2 t ht 0 (by decide), c_at hn c5 (by omega) hT.1 hT.2.1 hT.2.2.2.2.2.2.2.2.2 hk hway, ob_some]
      · rw [baseM I5 1 hP5.2.2.2.1 (by rw [if_neg (nI_pos (by omega))]), m_right1 u2_at, ob_some]
        dsimp only
        rw [if_neg (show ¬ (1 : Int32) = 0 by decide), e11, ob_some, ck_n (by omega) (by decide), nI_clamp (by omega), p1]
        by_cases he : π.w t = []
        · rw [if_pos he, if_pos (show (-1 : Int32) ≤ nI k by rw [Int32.le_iff_toInt_le, nI_toInt (by omega)]; show (-1 : Int) ≤ _; omega), dif_neg (by rw [he]; simp)]
        · rw [if_neg he]
          by_cases h : k < (π.w t).length
          · rw [if_neg (nI_ge h (by omega)), n7, ck_n (by omega) (by decide), nI_clamp (by omega), p3 k h, dif_pos h]
          · rw [if_pos (nI_le (by omega) (by omega)), dif_neg h]
  · refine ⟨.inr xnN, I, 0, upd2 (upd2 I 310 0 0) 310 0 1, ?_, (fun E h => by cases h; rfl), ?_, u2_at, (fun v h => by cases h), hInv.sm s0.u0⟩
    · unfold mX10_planned
      rw [eC I c1, lb_r]
    · unfold mX11_planned
      rw [eM _ (m1.sm s0) u2_at, ob_some]
      dsimp only
      rw [if_pos rfl]
end PlanS
