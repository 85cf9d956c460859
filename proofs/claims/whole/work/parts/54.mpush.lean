/-! the reference: whom a tunnel pushes out -/
section MPush
variable {ν : Nt} {σ : St} {I : gI} {N b : Nat}
theorem c_bits0 : ∀ s, s < 512 → mJ6_bitCount_0f7a4 (nI s) (fun _ _ => 0) = some (nI (pcn s)) := by decide +kernel
theorem c_bits {s : Nat} (h : s < 512) : mJ6_bitCount_0f7a4 (nI s) I = some (nI (pcn s)) := c_bits0 s h
theorem m_bits (hN : 100 ≤ N) (s : Nat) : mX11_bits N (nI s) I = some (nI (pcn s)) := by
  obtain ⟨v, hP, e⟩ := loopP (F := fun n v i => mX11_bits_4 (nI s) I n v i) (b := 16) (out := id)
    (P := fun k v => v = nI ((List.range k).filter (fun i => s.testBit i)).length)
    (fun n v _ => by
      show mX11_bits_4 (nI s) I (n + 1) v (nI 16) = some v
      rw [mX11_bits_4, if_pos (by decide)])
    (fun n k v hk hP => by
      refine ⟨_, ?_, rfl⟩
      show mX11_bits_4 (nI s) I (n + 1) v (nI k) = mX11_bits_4 (nI s) I n _ (nI (k + 1))
      rw [mX11_bits_4, show (16 : Int32) = nI 16 from rfl, if_neg (nI_ge hk (by omega)), mbv (by omega), b_nI (by omega), nI_1, hP, List.range_succ, List.filter_append]
      cases h1 : s.testBit k with
      | true => rw [if_pos rfl, nI_1]; simp [h1]
      | false => rw [if_neg (by decide), Int32.add_zero]; simp [h1])
    N 0 0 (Nat.zero_le _) (by omega) rfl
  unfold mX11_bits
  rw [show mX11_bits_4 (nI s) I N 0 0 = some v from e, ob_some, hP]
  rfl
theorem pcn_sm {n s : Nat} : (((List.range n).filter (fun i => s.testBit i)).length : Int) = sm (fun o => if s.testBit o = true then 1 else 0) n := by
  induction n with
  | zero => rfl
  | succ n ih =>
    rw [List.range_succ, List.filter_append, List.length_append, sm, ← ih]
    cases h1 : s.testBit n <;> simp [h1]
theorem pcn_eq (hn : ν.tn ≤ 9) {s : Nat} (hs : s < 2 ^ ν.tn) : (pcn s : Int) = sS ν (fun _ => 1) s := by
  unfold pcn sS
  rw [pcn_sm]
  have : ∀ m, ν.tn ≤ m → sm (fun o => if s.testBit o = true then (1 : Int) else 0) m = sm (fun o => if s.testBit o = true then 1 else 0) ν.tn := by
    intro m
    induction m with
    | zero => intro h; rw [show ν.tn = 0 by omega]
    | succ m ih =>
      intro h
      by_cases e : ν.tn = m + 1
      · rw [e]
      · rw [sm, ih (by omega), if_neg (fun h1 => by have := tb_lt hs h1; omega), Int.add_zero]
  exact this 16 (by omega)
theorem m_harm (hn : WfN ν) (hI : NetM ν I) (hN : 100 ≤ N) (s : Nat) : mX11_harm N (nI s) I = some (zI (sS ν (hrm ν) s)) := by
  have htn := hn.2.2.2.1
  obtain ⟨v, hP, e⟩ := loopP (F := fun n v i => mX11_harm_4 (nI s) I n v i) (b := ν.tn) (out := id)
    (P := fun k v => v = zI (sm (fun o => if s.testBit o = true then hrm ν o else 0) k))
    (fun n v _ => by
      show mX11_harm_4 (nI s) I (n + 1) v (nI ν.tn) = some v
      rw [mX11_harm_4, hI.2.2.1, if_pos (nI_le (Nat.le_refl _) (by omega))])
    (fun n k v hk hP => by
      refine ⟨_, ?_, rfl⟩
      show mX11_harm_4 (nI s) I (n + 1) v (nI k) = mX11_harm_4 (nI s) I n _ (nI (k + 1))
      rw [mX11_harm_4, hI.2.2.1, if_neg (nI_ge hk (by omega)), m_hold hn hI hk, ob_some, mbv (by omega), b_nI (by omega), nI_1, hP, sm]
      have e9 : (8 - nI (ν.T k 4) : Int32) = zI (hrm ν k) := by
        unfold hrm
        rw [← zI_nat (ν.T k 4), show (8 : Int32) = zI 8 from rfl, zI_sub]
      rw [e9]
      cases h1 : s.testBit k with
      | true => rw [if_pos rfl, if_pos rfl, Int32.one_mul, zI_add]
      | false => rw [if_neg (by decide), if_neg (by decide), Int32.zero_mul, Int32.add_zero, Int.add_zero])
    N 0 0 (Nat.zero_le _) (by omega) rfl
  unfold mX11_harm
  rw [show mX11_harm_4 (nI s) I N 0 0 = some v from e, ob_some, hP]
  rfl
theorem m_band (hn : WfN ν) (hI : NetM ν I) (hs : MS ν 317 b σ I) (hb : b ≤ 82) (hN : 100 ≤ N) (s : Nat) : mX11_bandOf N (nI b) (nI s) I = some (zI (sS ν (bnd σ) s)) := by
  have htn := hn.2.2.2.1
  obtain ⟨v, hP, e⟩ := loopP (F := fun n v i => mX11_bandOf_5 (nI b) (nI s) I n v i) (b := ν.tn) (out := id)
    (P := fun k v => v = zI (sm (fun o => if s.testBit o = true then bnd σ o else 0) k))
    (fun n v _ => by
      show mX11_bandOf_5 (nI b) (nI s) I (n + 1) v (nI ν.tn) = some v
      rw [mX11_bandOf_5, hI.2.2.1, if_pos (nI_le (Nat.le_refl _) (by omega))])
    (fun n k v hk hP => by
      refine ⟨_, ?_, rfl⟩
      show mX11_bandOf_5 (nI b) (nI s) I (n + 1) v (nI k) = mX11_bandOf_5 (nI b) (nI s) I n _ (nI (k + 1))
      rw [mX11_bandOf_5, hI.2.2.1, if_neg (nI_ge hk (by omega)), ix1, ck_n (by omega) (by decide), nI_clamp (by omega), (hs.2 k hk).1, mbv (by omega), b_nI (by omega), nI_1, nm_n, hP, sm, ← zI_nat (σ.bd k)]
      unfold bnd
      cases h1 : s.testBit k with
      | true => rw [if_pos rfl, if_pos rfl, Int32.one_mul, zI_add]
      | false => rw [if_neg (by decide), if_neg (by decide), Int32.zero_mul, Int32.add_zero, Int.add_zero])
    N 0 0 (Nat.zero_le _) (by omega) rfl
  unfold mX11_bandOf
  rw [show mX11_bandOf_5 (nI b) (nI s) I N 0 0 = some v from e, ob_some, hP]
  rfl
theorem m_less (hn : WfN ν) (hI : NetM ν I) (hs : MS ν 317 b σ I) (hw : WfW ν σ) (hb : b ≤ 82) (hN : 100 ≤ N) {s s' : Nat} (h1 : s < 2 ^ ν.tn) (h2 : s' < 2 ^ ν.tn) : mX11_isLess N (nI b) (nI s) (nI s') I = some (if sS ν (cst ν σ) s < sS ν (cst ν σ) s' then 1 else 0) := by
  have htn := hn.2.2.2.1
  have p1 := pcn_eq htn h1
  have p2 := pcn_eq htn h2
  have c1 := cst_eq (ν := ν) (σ := σ) s
  have c2 := cst_eq (ν := ν) (σ := σ) s'
  have bd1 : ∀ s, 0 ≤ sS ν (fun _ => 1) s ∧ sS ν (fun _ => 1) s ≤ 9 := fun s => by
    have := sS_bd (ν := ν) (B := 1) (f := fun _ => 1) (fun o ho => by omega) s
    omega
  have bd2 : ∀ s, 0 ≤ sS ν (bnd σ) s ∧ sS ν (bnd σ) s ≤ 891 := fun s => by
    have := sS_bd (ν := ν) (B := 99) (f := bnd σ) (fun o ho => by have := (hw o ho).1; unfold bnd; omega) s
    have h4 : ν.tn * 99 ≤ 9 * 99 := Nat.mul_le_mul_right _ htn
    omega
  have bd3 : ∀ s, 0 ≤ sS ν (hrm ν) s ∧ sS ν (hrm ν) s ≤ 72 := fun s => by
    have := sS_bd (ν := ν) (B := 8) (f := hrm ν) (fun o ho => by have := hn.2.2.2.2.2 o ho; unfold hrm; omega) s
    have h4 : ν.tn * 8 ≤ 9 * 8 := Nat.mul_le_mul_right _ htn
    omega
  have a1 := bd1 s
  have a2 := bd1 s'
  have a3 := bd2 s
  have a4 := bd2 s'
  have a5 := bd3 s
  have a6 := bd3 s'
  unfold mX11_isLess
  rw [m_harm hn hI hN, m_harm hn hI hN, m_bits hN, m_bits hN, m_band hn hI hs hb hN, m_band hn hI hs hb hN, ob_some, ob_some, ob_some, ob_some, ob_some, ob_some, ob_some, ob_some, ob_some, ob_some]
  generalize sS ν (hrm ν) s = H at *
  generalize sS ν (hrm ν) s' = H' at *
  generalize sS ν (bnd σ) s = B at *
  generalize sS ν (bnd σ) s' = B' at *
  generalize sS ν (cst ν σ) s = C at *
  generalize sS ν (cst ν σ) s' = C' at *
  generalize sS ν (fun _ => 1) s = D at *
  generalize sS ν (fun _ => 1) s' = D' at *
  by_cases e1 : H = H'
  · rw [if_pos (by rw [e1])]
    by_cases e2 : pcn s = pcn s'
    · rw [if_pos (by rw [e2])]
      by_cases e3 : B < B'
      · rw [if_neg (fun h => by rw [zI_le ⟨by omega, by omega⟩ ⟨by omega, by omega⟩] at h; omega), if_pos (by omega)]
      · rw [if_pos ((zI_le ⟨by omega, by omega⟩ ⟨by omega, by omega⟩).mpr (by omega)), if_neg (by omega)]
    · rw [if_neg (fun h => e2 ((nI_eq (by omega) (by omega)).mp h))]
      by_cases e3 : pcn s < pcn s'
      · rw [if_neg (nI_ge e3 (by omega)), if_pos (by omega)]
      · rw [if_pos (nI_le (by omega) (by omega)), if_neg (by omega)]
  · rw [if_neg (fun h => e1 ((zI_inj ⟨by omega, by omega⟩ ⟨by omega, by omega⟩).mp h))]
    by_cases e3 : H < H'
    · rw [if_neg (fun h => by rw [zI_le ⟨by omega, by omega⟩ ⟨by omega, by omega⟩] at h; omega), if_pos (by omega)]
    · rw [if_pos ((zI_le ⟨by omega, by omega⟩ ⟨by omega, by omega⟩).mpr (by omega)), if_neg (by omega)]
theorem m_en50 (hn : WfN ν) (hI : NetM ν I) (hs : MS ν 317 b σ I) (hw : WfW ν σ) (hb : b ≤ 82) (hN : 100 ≤ N) {s l : Nat} {k2 k4 : Int32} (hl : l < ν.ln) (x : Int) : mX11_isEnough_50 N (nI b) k2 (nI s) k4 (nI l) I N (zI x) 0 = some (zI (x - rlv ν σ s l)) := by
  have htn := hn.2.2.2.1
  have hln := hn.2.2.1
  obtain ⟨v, hP, e⟩ := loopP (F := fun n v i => mX11_isEnough_50 N (nI b) k2 (nI s) k4 (nI l) I n v i) (b := ν.tn) (out := id)
    (P := fun k v => v = zI (x - sm (fun o => if s.testBit o = true then (if l ∈ σ.w o then (σ.bd o : Int) else 0) else 0) k))
    (fun n v _ => by
      show mX11_isEnough_50 N (nI b) k2 (nI s) k4 (nI l) I (n + 1) v (nI ν.tn) = some v
      rw [mX11_isEnough_50, hI.2.2.1, if_pos (nI_le (Nat.le_refl _) (by omega))])
    (fun n k v hk hP => by
      refine ⟨_, ?_, rfl⟩
      show mX11_isEnough_50 N (nI b) k2 (nI s) k4 (nI l) I (n + 1) v (nI k) = mX11_isEnough_50 N (nI b) k2 (nI s) k4 (nI l) I n _ (nI (k + 1))
      rw [mX11_isEnough_50, hI.2.2.1, if_neg (nI_ge hk (by omega)), m_wb hn hs hw hb hN hk, ob_some, ix1, ck_n (by omega) (by decide), nI_clamp (by omega), (hs.2 k hk).1, nI_1, hP, sm]
      by_cases h1 : s.testBit k = true
      · rw [if_pos ((mb1 (by omega) _).mpr (by rw [b_nI (by omega)]; exact h1)), if_pos h1]
        by_cases h2 : l ∈ σ.w k
        · rw [if_pos ((mb1 (by omega) _).mpr (by rw [wb_t hn hw hk (by omega)]; simp [h2])), if_pos h2, zI_subn]
          congr 2
          omega
        · rw [if_neg (fun h => by rw [mb1 (by omega), wb_t hn hw hk (by omega)] at h; simp [h2] at h), if_neg h2, Int.add_zero]
      · rw [if_neg (fun h => by rw [mb1 (by omega), b_nI (by omega)] at h; exact h1 h), if_neg h1, Int.add_zero])
    N 0 (zI x) (Nat.zero_le _) (by omega) (by rw [sm, Int.sub_zero])
  rw [show mX11_isEnough_50 N (nI b) k2 (nI s) k4 (nI l) I N (zI x) 0 = some v from e, hP]
  rfl
theorem m_taken (hn : WfN ν) (hI : NetM ν I) (hs : MS ν 317 b σ I) (hw : WfW ν σ) (hb : b ≤ 82) (hN : 100 ≤ N) {l : Nat} (hl : l < ν.ln) : mX11_takenAt N (nI b) (nI l) I = some (zI ((ν.L l 3 : Int) - pl ν σ 99 l 7)) := by
  have hln := hn.2.2.1
  unfold mX11_takenAt
  rw [show (3 : Int32) = nI 3 from rfl, n5, ck_n (by omega) (by decide), nI_clamp (by omega), hI.2.2.2.1 l hl 3 (by decide), show (7 : Int32) = nI 7 from rfl, m_pool hn hI hs hw hb hN hl (Nat.le_refl 7), ob_some, ← zI_nat, zI_sub]
theorem m_eno (hn : WfN ν) (hI : NetM ν I) (hs : MS ν 317 b σ I) (hw : WfW ν σ) (hb : b ≤ 82) (hN : 100 ≤ N) {t : Nat} (s : Nat) (ht : t < ν.tn) (hne : σ.w t ≠ []) : (mX11_isEnough N (nI b) (nI t) (nI s) I = some 1 ∧ eno ν σ t s) ∨ (mX11_isEnough N (nI b) (nI t) (nI s) I = some 0 ∧ ¬ eno ν σ t s) := by
  have htn := hn.2.2.2.1
  have hln := hn.2.2.1
  have hwt := hw t ht
  have hst := hs.2 t ht
  have hlen : I 317 (b + 10 + t) = nI (σ.w t).length := by rw [hst.2.1, if_neg hne]
  have h9 := loopR (F := fun n (_ : Unit) i => mX11_isEnough_3 N (nI b) (nI t) (nI s) I n i) (b := (σ.w t).length) (out := fun _ => Sum.inl ()) (Qr := fun r => r = .inr 0 ∧ ¬ eno ν σ t s)
    (P := fun k _ => ∀ j, (hj : j < (σ.w t).length) → j < k → 0 ≤ pl ν σ 99 (σ.w t)[j] 7 + rlv ν σ s (σ.w t)[j])
    (fun n _ _ => by
      show mX11_isEnough_3 N (nI b) (nI t) (nI s) I (n + 1) (nI (σ.w t).length) = _
      rw [mX11_isEnough_3, ix10, ck_n (by omega) (by decide), nI_clamp (by omega), hlen, if_pos (nI_le (Nat.le_refl _) (by omega))])
    (fun n k _ hk hP => by
      have hm : (σ.w t)[k] ∈ σ.w t := List.getElem_mem hk
      have hl := hwt.2.2 _ hm
      have hb1 := pl_sml (x := 99) (p := 7) hn hw hl
      have hb2 := rlv_bd hn hw s (σ.w t)[k]
      have hL := hn.2.2.2.2.1 _ hl
      have key : mX11_isEnough_3 N (nI b) (nI t) (nI s) I (n + 1) (nI k) = if 0 ≤ pl ν σ 99 (σ.w t)[k] 7 + rlv ν σ s (σ.w t)[k] then mX11_isEnough_3 N (nI b) (nI t) (nI s) I n (nI (k + 1)) else some (.inr 0) := by
        rw [mX11_isEnough_3, ix10, ck_n (by omega) (by decide), nI_clamp (by omega), hlen, if_neg (nI_ge hk (by omega)), ix19, ck_n (by omega) (by decide), nI_clamp (by omega), hst.2.2 k hk, m_taken hn hI hs hw hb hN hl, ob_some, m_en50 hn hI hs hw hb hN hl, ob_some, nm_n, show (3 : Int32) = nI 3 from rfl, n5, ck_n (by omega) (by decide), nI_clamp (by omega), hI.2.2.2.1 _ hl 3 (by decide), nI_1, ← zI_nat (ν.L _ 3)]
        by_cases h2 : 0 ≤ pl ν σ 99 (σ.w t)[k] 7 + rlv ν σ s (σ.w t)[k]
        · rw [if_pos h2, if_pos ((zI_le ⟨by omega, by omega⟩ ⟨by omega, by omega⟩).mpr (by omega))]
        · rw [if_neg h2, if_neg (fun h => by rw [zI_le ⟨by omega, by omega⟩ ⟨by omega, by omega⟩] at h; omega)]
      by_cases hc : 0 ≤ pl ν σ 99 (σ.w t)[k] 7 + rlv ν σ s (σ.w t)[k]
      · refine Or.inl ⟨(), by show mX11_isEnough_3 _ _ _ _ _ (n + 1) (nI k) = _; rw [key, if_pos hc], fun j hj hjk => ?_⟩
        by_cases he : j = k
        · subst he; exact hc
        · exact hP j hj (by omega)
      · exact Or.inr ⟨_, by show mX11_isEnough_3 _ _ _ _ _ (n + 1) (nI k) = _; rw [key, if_neg hc], rfl, fun h => hc (h _ hm)⟩)
    N 0 () (Nat.zero_le _) (by omega) (fun j _ h => by omega)
  unfold mX11_isEnough
  rcases h9 with ⟨-, hP, e⟩ | ⟨r, e, rfl, h2⟩
  · refine Or.inl ⟨by rw [show mX11_isEnough_3 N (nI b) (nI t) (nI s) I N 0 = _ from e, lb_l], fun l hl => ?_⟩
    obtain ⟨j, hj, rfl⟩ := List.getElem_of_mem hl
    exact hP j hj hj
  · exact Or.inr ⟨by rw [show mX11_isEnough_3 N (nI b) (nI t) (nI s) I N 0 = _ from e, lb_r], h2⟩
theorem m_stand (hn : WfN ν) (hs : MS ν 317 b σ I) (hw : WfW ν σ) (hb : b ≤ 82) {t : Nat} (ht : t < ν.tn) : mX11_doesStand (nI b) (nI t) I = some (if σ.w t = [] then 0 else 1) := by
  have htn := hn.2.2.2.1
  have hwt := hw t ht
  unfold mX11_doesStand
  rw [ix10, ck_n (by omega) (by decide), nI_clamp (by omega), (hs.2 t ht).2.1]
  by_cases h : σ.w t = []
  · rw [if_pos h, if_pos h, if_pos rfl]
  · rw [if_neg h, if_neg h, if_neg (nI_m1 (by omega))]
set_option maxHeartbeats 2000000 in
theorem m_push (hn : WfN ν) (hI : NetM ν I) (hs : MS ν 317 b σ I) (hw : WfW ν σ) (hb : b ≤ 82) (hN : 1000 ≤ N) {t : Nat} (ht : t < ν.tn) (hne : σ.w t ≠ []) (hfit : ∀ l ∈ σ.w t, (σ.bd t : Int) ≤ pl ν σ t l (ν.T t 3)) : ∃ s, mX11_pushedBy N (nI b) (nI t) I = some (nI s) ∧ psh ν σ t s := by
  have htn := hn.2.2.2.1
  have hpow : (2 : Nat) ^ ν.tn ≤ 2 ^ 9 := Nat.pow_le_pow_right (by decide) htn
  have h29 : (2 : Nat) ^ 9 = 512 := rfl
  have hTt := hn.2.2.2.2.2 t ht
  obtain ⟨x, hP5, e5⟩ := loopP (F := fun n v i => mX11_pushedBy_5 (nI b) (nI t) I n v i) (b := ν.tn) (out := id)
    (P := fun k v => v = bm (wkr ν σ t) k)
    (fun n v _ => by
      show mX11_pushedBy_5 (nI b) (nI t) I (n + 1) v (nI ν.tn) = some v
      rw [mX11_pushedBy_5, hI.2.2.1, if_pos (nI_le (Nat.le_refl _) (by omega))])
    (fun n k v hk hP => by
      refine ⟨_, ?_, rfl⟩
      show mX11_pushedBy_5 (nI b) (nI t) I (n + 1) v (nI k) = mX11_pushedBy_5 (nI b) (nI t) I n _ (nI (k + 1))
      have hT := hn.2.2.2.2.2 k hk
      have or0 : ∀ v : Int32, v ||| 0 = v := fun v => b_ext fun i hi => by rw [b_or, b_0, Bool.or_false]
      rw [mX11_pushedBy_5, hI.2.2.1, if_neg (nI_ge hk (by omega)), m_stand hn hs hw hb hk, ob_some, m_hold hn hI hk, ob_some, m_setup hn hI ht, ob_some, nI_1, or0, bm, hP]
      unfold wkr
      by_cases h1 : σ.w k = []
      · rw [if_pos h1, if_pos rfl]; simp [h1]
      · rw [if_neg h1, if_neg (show ¬ (1 : Int32) = 0 by decide)]
        by_cases h2 : ν.T t 3 < ν.T k 4
        · rw [if_neg (nI_ge h2 (by omega))]; simp [h1, h2, hk]
        · rw [if_pos (nI_le (by omega) (by omega))]; simp [h2])
    N 0 0 (Nat.zero_le _) (by omega) rfl
  have e5' : mX11_pushedBy_5 (nI b) (nI t) I N 0 0 = some (nI (mk9 (wkr ν σ t) ν.tn)) := by
    rw [show mX11_pushedBy_5 (nI b) (nI t) I N 0 0 = some x from e5, hP5, mk9_bm _ (by omega)]
  obtain ⟨W, hW⟩ : ∃ W, W = mk9 (wkr ν σ t) ν.tn := ⟨_, rfl⟩
  have hWtb : ∀ o, W.testBit o = (decide (o < ν.tn) && wkr ν σ t o) := fun o => by rw [hW, mk9_tb]
  have hsub : ∀ s, s < 2 ^ ν.tn → (sub9 s W ↔ ∀ o, s.testBit o = true → wkr ν σ t o = true) := by
    intro s hs'
    constructor
    · intro h o ho
      have := h o ho
      rw [hWtb] at this
      simp at this
      exact this.2
    · intro h o ho
      rw [hWtb, h o ho, decide_eq_true (tb_lt hs' ho)]
      rfl
  let cd : Nat → Prop := fun s => sub9 s W ∧ eno ν σ t s
  have hlp := loopP (F := fun n (v : Int32) i => mX11_pushedBy_61 N (nI b) (nI t) (nI W) I n v i) (b := 2 ^ ν.tn) (out := id)
    (P := fun k v => (v = -1 ∧ ∀ s, s < k → ¬ cd s) ∨ ∃ s, s < k ∧ s < 2 ^ ν.tn ∧ cd s ∧ v = nI s ∧ ∀ s', s' < k → cd s' → sS ν (cst ν σ) s < sS ν (cst ν σ) s' ∨ (sS ν (cst ν σ) s = sS ν (cst ν σ) s' ∧ s ≤ s'))
    (fun n v _ => by
      show mX11_pushedBy_61 N (nI b) (nI t) (nI W) I (n + 1) v (nI (2 ^ ν.tn)) = some v
      rw [mX11_pushedBy_61, hI.2.2.1, sh1_n _ (by omega), if_pos (nI_le (Nat.le_refl _) (by omega))])
    (fun n k v hk hP => by
      haveI hdec : Decidable (sub9 k W ∧ eno ν σ t k) := Classical.propDecidable _
      have hd : ∀ v, mX11_pushedBy_61 N (nI b) (nI t) (nI W) I (n + 1) v (nI k) = if sub9 k W ∧ eno ν σ t k then (if v = -1 then mX11_pushedBy_61 N (nI b) (nI t) (nI W) I n (nI k) (nI (k + 1)) else Option.bind (mX11_isLess N (nI b) (nI k) v I) (fun r17 => if r17 = 0 then mX11_pushedBy_61 N (nI b) (nI t) (nI W) I n v (nI (k + 1)) else mX11_pushedBy_61 N (nI b) (nI t) (nI W) I n (nI k) (nI (k + 1)))) else mX11_pushedBy_61 N (nI b) (nI t) (nI W) I n v (nI (k + 1)) := by
        intro v
        rw [mX11_pushedBy_61, hI.2.2.1, sh1_n _ (by omega), if_neg (nI_ge hk (by omega)), nI_1]
        by_cases h1 : sub9 k W
        · rw [if_pos ((sub9_iff (by omega)).mpr h1)]
          rcases m_eno (N := N) hn hI hs hw hb (by omega) k ht hne with ⟨e, h2⟩ | ⟨e, h2⟩
          · rw [e, ob_some, if_neg (by decide), if_pos (show sub9 k W ∧ eno ν σ t k from ⟨h1, h2⟩)]
          · rw [e, ob_some, if_pos rfl, if_neg (fun h => h2 h.2)]
        · rw [if_neg (fun h => h1 ((sub9_iff (by omega)).mp h)), if_neg (fun h => h1 h.1)]
      by_cases hck : cd k
      · have hd' := hd v
        rw [if_pos (show sub9 k W ∧ eno ν σ t k from hck)] at hd'
        rcases hP with ⟨h1, h2⟩ | ⟨s, h1, h2, h3, h4, h5⟩
        · rw [if_pos h1] at hd'
          refine ⟨nI k, hd', Or.inr ⟨k, by omega, hk, hck, rfl, fun s' q1 q2 => ?_⟩⟩
          by_cases he : s' = k
          · subst he; exact Or.inr ⟨rfl, Nat.le_refl _⟩
          · exact absurd q2 (h2 s' (by omega))
        · rw [if_neg (by rw [h4]; exact nI_m1 (by omega)), h4, m_less hn hI hs hw hb (by omega) hk h2, ob_some] at hd'
          by_cases hlt : sS ν (cst ν σ) k < sS ν (cst ν σ) s
          · rw [if_pos hlt, if_neg (by decide), ← h4] at hd'
            refine ⟨nI k, hd', Or.inr ⟨k, by omega, hk, hck, rfl, fun s' q1 q2 => ?_⟩⟩
            by_cases he : s' = k
            · subst he; exact Or.inr ⟨rfl, Nat.le_refl _⟩
            · have := h5 s' (by omega) q2
              omega
          · rw [if_neg hlt, if_pos rfl, ← h4] at hd'
            refine ⟨v, hd', Or.inr ⟨s, by omega, h2, h3, h4, fun s' q1 q2 => ?_⟩⟩
            by_cases he : s' = k
            · subst he; omega
            · exact h5 s' (by omega) q2
      · have hd' := hd v
        rw [if_neg (show ¬ (sub9 k W ∧ eno ν σ t k) from hck)] at hd'
        refine ⟨v, hd', ?_⟩
        rcases hP with ⟨h1, h2⟩ | ⟨s, h1, h2, h3, h4, h5⟩
        · refine Or.inl ⟨h1, fun s' q1 => ?_⟩
          by_cases he : s' = k
          · subst he; exact hck
          · exact h2 s' (by omega)
        · refine Or.inr ⟨s, by omega, h2, h3, h4, fun s' q1 q2 => ?_⟩
          by_cases he : s' = k
          · subst he; exact absurd q2 hck
          · exact h5 s' (by omega) q2)
    N 0 (-1) (Nat.zero_le _) (by omega) (Or.inl ⟨rfl, fun s h => by omega⟩)
  obtain ⟨v, hv, e2⟩ := hlp
  have res : mX11_pushedBy N (nI b) (nI t) I = some v := by
    unfold mX11_pushedBy
    rw [e5', ob_some, ← hW, show mX11_pushedBy_61 N (nI b) (nI t) (nI W) I N (-1) 0 = some v from e2, ob_some]
  have hWlt : W < 2 ^ ν.tn := by rw [hW]; exact mk9_lt _
  rcases hv with ⟨h1, h2⟩ | ⟨s, h1, h2, h3, h4, h5⟩
  · exact absurd ⟨fun _ h => h, by rw [hW]; exact full_eno hn ht hfit⟩ (h2 W hWlt)
  · exact ⟨s, by rw [res, h4], h2, (hsub s h2).mp h3.1, h3.2, fun s' q1 q2 q3 => h5 s' q1 ⟨(hsub s' q1).mpr q2, q3⟩⟩
end MPush
