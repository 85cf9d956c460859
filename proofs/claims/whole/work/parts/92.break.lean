/-! whom to break -/
section Brk
variable {ν : Nt} {σ π : St} {N : Nat} {I : gI}
theorem ld_A {A l : Nat} : ldB ν σ π 0 A 0 l = ldB ν σ π 0 0 0 l + sm (fun i => if A.testBit i = true then (if l ∈ π.w i then (σ.bd i : Int) else 0) - (if l ∈ σ.w i then (σ.bd i : Int) else 0) else 0) ν.tn := by
  unfold ldB
  rw [← sm_add]
  apply sm_congr
  intro i hi
  show (if onB σ π 0 A 0 l i = true then (σ.bd i : Int) else 0) = (if onB σ π 0 0 0 l i = true then (σ.bd i : Int) else 0) + (if A.testBit i = true then (if l ∈ π.w i then (σ.bd i : Int) else 0) - (if l ∈ σ.w i then (σ.bd i : Int) else 0) else 0)
  unfold onB
  rw [Nat.zero_testBit]
  cases hA : A.testBit i <;> by_cases h1 : l ∈ π.w i <;> by_cases h2 : l ∈ σ.w i <;> simp [h1, h2] <;> omega
set_option maxHeartbeats 1000000 in
theorem c_ends (hn : WfN ν) (h : RC ν σ π I) (hw : WfW ν σ) (hwp : WfW ν π) (hN : 100 ≤ N) (A : Nat) : ∃ I', mX3_endFits N (nI A) I = some (if bkd ν σ π 0 A 0 = true then 1 else 0, I') ∧ Fr [47] I I' := by
  have hln := hn.2.2.1
  have htn := hn.2.2.2.1
  obtain ⟨I1, e1, f1, t1⟩ := c_count (N := N) (π := π) hn h hw hN 0
  obtain ⟨I2, hP2, e2⟩ := loopP (F := fun n s i => mX3_endFits_7 N (nI A) n i s) (b := ν.tn) (out := id)
    (P := fun k s => Fr [47] I s ∧ ∀ l, l < ν.ln → s 47 l = zI (ldB ν σ π 0 0 0 l + sm (fun i => if A.testBit i = true then (if l ∈ π.w i then (σ.bd i : Int) else 0) - (if l ∈ σ.w i then (σ.bd i : Int) else 0) else 0) k))
    (fun n s hP => by
      show mX3_endFits_7 N (nI A) (n + 1) (nI ν.tn) s = some s
      rw [mX3_endFits_7, (h.1.fr hP.1 (by simp)).2.2.1, if_pos (nI_le (Nat.le_refl _) (by omega))])
    (fun n k s hk hP => by
      obtain ⟨f, p1⟩ := hP
      have hs := h.fr f (by simp)
      by_cases hb : A.testBit k = true
      · obtain ⟨s2, es, fs, ts⟩ := c_book (N := N) (x := wb (σ.w k)) (b := -(nI (σ.bd k))) (go := fun l => decide (l ∈ σ.w k)) hn hs.1 hN (fun l hl => wb_t hn hw hk (by omega))
        have hs2 := hs.fr fs (by simp)
        obtain ⟨s3, es3, fs3, ts3⟩ := c_book (N := N) (x := wb (π.w k)) (b := nI (σ.bd k)) (go := fun l => decide (l ∈ π.w k)) hn hs2.1 hN (fun l hl => wb_t hn hwp hk (by omega))
        refine ⟨s3, ?_, (f.tr fs).tr fs3, fun l hl => ?_⟩
        · show mX3_endFits_7 N (nI A) (n + 1) (nI k) s = mX3_endFits_7 N (nI A) n (nI (k + 1)) _
          rw [mX3_endFits_7, hs.1.2.2.1, if_neg (nI_ge hk (by omega)), if_neg (fun e => by rw [cb0 (by omega), b_nI (by omega), hb] at e; cases e), ck_n (by omega) (by decide), nI_clamp (by omega), show s 37 k = wb (σ.w k) from (hs.2.1.2 k hk).1, show s 38 k = nI (σ.bd k) from (hs.2.1.2 k hk).2, es, ob_some, show s2 45 k = wb (π.w k) from (hs2.2.2.2 k hk).1, show s2 38 k = nI (σ.bd k) from (hs2.2.1.2 k hk).2, es3, ob_some, nI_1]
        · rw [ts3 l hl, ts l hl, p1 l hl, sm, if_pos hb]
          by_cases h1 : l ∈ π.w k <;> by_cases h2 : l ∈ σ.w k
          · rw [if_pos (decide_eq_true h1), if_pos (decide_eq_true h2), zI_addneg, zI_addn, if_pos h1, if_pos h2]
            congr 1
            omega
          · rw [if_pos (decide_eq_true h1), if_neg (by simp [h2]), zI_addn, if_pos h1, if_neg h2]
            congr 1
            omega
          · rw [if_neg (by simp [h1]), if_pos (decide_eq_true h2), zI_addneg, if_neg h1, if_pos h2]
            congr 1
            omega
          · rw [if_neg (by simp [h1]), if_neg (by simp [h2]), if_neg h1, if_neg h2]
            congr 1
            omega
      · refine ⟨s, ?_, f, fun l hl => ?_⟩
        · show mX3_endFits_7 N (nI A) (n + 1) (nI k) s = mX3_endFits_7 N (nI A) n (nI (k + 1)) _
          rw [mX3_endFits_7, hs.1.2.2.1, if_neg (nI_ge hk (by omega)), if_pos ((cb0 (by omega) _).mpr (by rw [b_nI (by omega)]; simpa using hb)), nI_1]
        · rw [p1 l hl, sm, if_neg hb, Int.add_zero])
    N 0 I1 (Nat.zero_le _) (by omega) ⟨f1, fun l hl => by rw [t1 l hl, sm, Int.add_zero]⟩
  obtain ⟨f2, p2⟩ := hP2
  have t2 : TkC ν σ π 0 A I2 := fun l hl => by rw [p2 l hl, ld_A (A := A)]
  have hR2 := h.fr f2 (by simp)
  have h9 := loopR (F := fun n (_ : Unit) i => mX3_endFits_79 I2 n i) (b := ν.ln) (out := fun _ => Sum.inl ()) (Qr := fun r => r = .inr (0, I2) ∧ ¬ bkd ν σ π 0 A 0 = true)
    (P := fun k _ => ∀ l, l < k → ldB ν σ π 0 A 0 l ≤ (ν.L l 3 : Int))
    (fun n _ _ => by
      show mX3_endFits_79 I2 (n + 1) (nI ν.ln) = _
      rw [mX3_endFits_79, hR2.1.2.1, if_pos (nI_le (Nat.le_refl _) (by omega))])
    (fun n k _ hk hP => by
      have hbd := ldB_bd (π := π) (B := 0) (s := A) (u := 0) (l := k) hn hw
      have hL := hn.2.2.2.2.1 k hk
      have key : mX3_endFits_79 I2 (n + 1) (nI k) = if ldB ν σ π 0 A 0 k ≤ (ν.L k 3 : Int) then mX3_endFits_79 I2 n (nI (k + 1)) else some (.inr (0, I2)) := by
        rw [mX3_endFits_79, hR2.1.2.1, if_neg (nI_ge hk (by omega)), ck_n (by omega) (by decide), nI_clamp (by omega), t2 k hk, show I2 6 k = nI (ν.L k 3) from hR2.1.2.2.2.1 k hk 3 (by decide), ← zI_nat, nI_1]
        by_cases hc : ldB ν σ π 0 A 0 k ≤ (ν.L k 3 : Int)
        · rw [if_pos ((zI_le ⟨by omega, by omega⟩ ⟨by omega, by omega⟩).mpr hc), if_pos hc]
        · rw [if_neg (fun h => hc ((zI_le ⟨by omega, by omega⟩ ⟨by omega, by omega⟩).mp h)), if_neg hc]
      by_cases hc : ldB ν σ π 0 A 0 k ≤ (ν.L k 3 : Int)
      · refine Or.inl ⟨(), by show mX3_endFits_79 _ (n + 1) (nI k) = _; rw [key, if_pos hc], fun l hl => ?_⟩
        by_cases he : l = k
        · subst he; exact hc
        · exact hP l (by omega)
      · exact Or.inr ⟨_, by show mX3_endFits_79 _ (n + 1) (nI k) = _; rw [key, if_neg hc], rfl, fun h => hc (bkd_iff.mp h k hk)⟩)
    N 0 () (Nat.zero_le _) (by omega) (fun l h => by omega)
  refine ⟨I2, ?_, f2⟩
  unfold mX3_endFits
  rw [show mX3_countTaken N 0 I = some I1 from e1, ob_some, show mX3_endFits_7 N (nI A) N 0 I1 = some I2 from e2, ob_some]
  rcases h9 with ⟨-, hP, e⟩ | ⟨r, e, rfl, h2⟩
  · rw [show mX3_endFits_79 I2 N 0 = _ from e, lb_l, if_pos (bkd_iff.mpr hP)]
  · rw [show mX3_endFits_79 I2 N 0 = _ from e, lb_r, if_neg h2]
/-- one that may be broken -/
def Bk (ν : Nt) (σ π : St) (A v : Nat) : Prop := sub9 v A ∧ Cn ν σ π v (A ^^^ v) 0
/-- the one that is -/
def BkF (ν : Nt) (σ π : St) (A v : Nat) : Prop := Bk ν σ π A v ∧ ∀ y, Bk ν σ π A y → pcn v < pcn y ∨ (pcn v = pcn y ∧ v ≤ y)
theorem BkF_one {A v v' : Nat} (h : BkF ν σ π A v) (h' : BkF ν σ π A v') : v = v' := by
  have h1 := h.2 v' h'.1
  have h2 := h'.2 v h.1
  omega
theorem Bk_all (A : Nat) : Bk ν σ π A A := ⟨fun _ h => h, [], (Nat.xor_self A).symm⟩
theorem dif_xor {A v : Nat} (hA : A < 2147483648) (h : sub9 v A) : nI A &&& (nI v ^^^ (-1)) = nI (A ^^^ v) := nI_dif (fun i _ => by
  rw [xor_tb]
  have := h i
  cases h1 : A.testBit i <;> cases h2 : v.testBit i <;> simp_all)
/-- the search's counter and its rows -/
def StK (m : Nat) (I : gI) : Prop := I 43 8 = nI m ∧ ∀ x, x < 512 → ∃ k, k ≤ m ∧ I 49 x = nI k
theorem xor512 {A v : Nat} (hA : A < 512) (hv : v < 512) : A ^^^ v < 512 := Nat.xor_lt_two_pow (n := 9) hA hv
set_option maxHeartbeats 1000000 in
theorem c_few25 (hn : WfN ν) (g : Gd ν σ) (hwp : WfW ν π) (hN : 1000 ≤ N) {A z m : Nat} (hm : m + 600 < 2147483648) (hA : A < 512) (hz : z ≤ 9) (hAt : ∀ t, A.testBit t = true → t < ν.tn) (hR : RC ν σ π I) (hk : StK m I) : (∃ I' m', mX3_fewestToBreak_25 N (nI A) (nI z) N 0 I = some (.inl I') ∧ Fr [43, 47, 48, 49] I I' ∧ StK m' I' ∧ m' ≤ m + 512 ∧ ∀ y, Bk ν σ π A y → pcn y ≠ z) ∨ (∃ v I' m', mX3_fewestToBreak_25 N (nI A) (nI z) N 0 I = some (.inr (nI v, I')) ∧ Fr [43, 47, 48, 49] I I' ∧ StK m' I' ∧ m' ≤ m + 512 ∧ Bk ν σ π A v ∧ pcn v = z ∧ ∀ y, y < v → Bk ν σ π A y → pcn y ≠ z) := by
  have h9 := loopR (F := fun n K i => mX3_fewestToBreak_25 N (nI A) (nI z) n i K) (b := A + 1) (out := fun K => Sum.inl K) (Qr := fun r => ∃ v I' m', r = .inr (nI v, I') ∧ Fr [43, 47, 48, 49] I I' ∧ StK m' I' ∧ m' ≤ m + 512 ∧ Bk ν σ π A v ∧ pcn v = z ∧ ∀ y, y < v → Bk ν σ π A y → pcn y ≠ z)
    (P := fun k K => Fr [43, 47, 48, 49] I K ∧ (∃ m', StK m' K ∧ m' ≤ m + k) ∧ ∀ y, y < k → Bk ν σ π A y → pcn y ≠ z)
    (fun n K hP => by
      show mX3_fewestToBreak_25 N (nI A) (nI z) (n + 1) (nI (A + 1)) K = some (.inl K)
      rw [mX3_fewestToBreak_25, if_pos (nI_lt (by omega) (by omega))])
    (fun n v K hv hP => by
      obtain ⟨f, ⟨m', hk', hm'⟩, p3⟩ := hP
      have hRK := hR.fr f (by simp)
      have skip : (Bk ν σ π A v → pcn v ≠ z) → ∀ y, y < v + 1 → Bk ν σ π A y → pcn y ≠ z := fun hno y hy => by
        by_cases e : y = v
        · rw [e]; exact hno
        · exact p3 y (by omega)
      show (∃ s', mX3_fewestToBreak_25 N (nI A) (nI z) (n + 1) (nI v) K = mX3_fewestToBreak_25 N (nI A) (nI z) n (nI (v + 1)) s' ∧ _) ∨ ∃ r, mX3_fewestToBreak_25 N (nI A) (nI z) (n + 1) (nI v) K = some r ∧ _
      have hnlt : ¬ nI A < nI v := nI_nlt (by omega) (by omega)
      by_cases hs : sub9 v A
      · have hp9 := pcn_9 v (by omega)
        by_cases hpz : pcn v = z
        · obtain ⟨r, K', e', f', z', q', res⟩ := c_can (N := N) (B := v) (A := A ^^^ v) (m := m') hn g hwp (by omega) (by omega) (xor512 hA (by omega)) (fun t ht => by
            rw [xor_tb] at ht
            cases h1 : A.testBit t with
            | false =>
              have h2 : v.testBit t = false := by
                cases h3 : v.testBit t with
                | false => rfl
                | true => rw [hs t h3] at h1; cases h1
              rw [h1, h2] at ht; cases ht
            | true =>
              refine ⟨hAt t h1, ?_⟩
              rw [h1] at ht
              simpa using ht) hRK hk'.1 hk'.2
          have hd : mX3_fewestToBreak_25 N (nI A) (nI z) (n + 1) (nI v) K = if r = 0 then mX3_fewestToBreak_25 N (nI A) (nI z) n (nI (v + 1)) K' else some (.inr (nI v, K')) := by
            rw [mX3_fewestToBreak_25, if_neg hnlt, if_pos ((sub9_iff (by omega)).mpr hs), c_bits (by omega), ob_some, if_pos (by rw [hpz]), dif_xor (by omega) hs, e', ob_some]
            dsimp only
            rw [nI_1]
          rcases res with ⟨rfl, hno⟩ | ⟨rfl, row, hr, -⟩
          · left
            exact ⟨K', by rw [hd, if_pos rfl], f.tr f', ⟨m' + 1, ⟨z', q'⟩, by omega⟩, skip (fun h => absurd h.2 hno)⟩
          · right
            exact ⟨_, by rw [hd, if_neg (by decide)], v, K', m' + 1, rfl, f.tr f', ⟨z', q'⟩, by omega, ⟨hs, fR_Cn hr⟩, hpz, p3⟩
        · left
          refine ⟨K, ?_, f, ⟨m', hk', by omega⟩, skip (fun _ => hpz)⟩
          rw [mX3_fewestToBreak_25, if_neg hnlt, if_pos ((sub9_iff (by omega)).mpr hs), c_bits (by omega), ob_some, if_neg (fun e => hpz ((nI_eq (by omega) (by omega)).mp e)), nI_1]
      · left
        refine ⟨K, ?_, f, ⟨m', hk', by omega⟩, skip (fun h => absurd h.1 hs)⟩
        rw [mX3_fewestToBreak_25, if_neg hnlt, if_neg (fun e => hs ((sub9_iff (by omega)).mp e)), nI_1])
    N 0 I (Nat.zero_le _) (by omega) ⟨Fr.rf, ⟨m, hk, by omega⟩, fun y hy => by omega⟩
  rcases h9 with ⟨K, ⟨f, ⟨m', hk', hm'⟩, p3⟩, e⟩ | ⟨r, e, v, I', m', rfl, h⟩
  · exact Or.inl ⟨K, m', e, f, hk', by omega, fun y hy => p3 y (by have := sub9_le hy.1; omega) hy⟩
  · exact Or.inr ⟨v, I', m', e, h⟩
theorem le512 {a b c d : Nat} (h1 : a ≤ b + 512) (h2 : b ≤ c + 512 * d) : a ≤ c + 512 * (d + 1) := Nat.le_trans h1 (Nat.le_trans (Nat.add_le_add_right h2 512) (Nat.le_of_eq (by rw [Nat.mul_succ, Nat.add_assoc])))
theorem c_few (hn : WfN ν) (g : Gd ν σ) (hwp : WfW ν π) (hN : 1000 ≤ N) {A m : Nat} (hm : m + 7000 < 2147483648) (hA : A < 512) (hAt : ∀ t, A.testBit t = true → t < ν.tn) (hR : RC ν σ π I) (hk : StK m I) : ∃ v I' m', mX3_fewestToBreak_17 N (nI A) N 0 I = some (.inr (nI v, I')) ∧ Fr [43, 47, 48, 49] I I' ∧ StK m' I' ∧ m' ≤ m + 6000 ∧ BkF ν σ π A v := by
  have h9 := loopR (F := fun n K i => mX3_fewestToBreak_17 N (nI A) n i K) (b := 10) (out := fun K => Sum.inl K) (Qr := fun r => ∃ v I' m', r = .inr (nI v, I') ∧ Fr [43, 47, 48, 49] I I' ∧ StK m' I' ∧ m' ≤ m + 6000 ∧ BkF ν σ π A v)
    (P := fun k K => Fr [43, 47, 48, 49] I K ∧ (∃ m', StK m' K ∧ m' ≤ m + 512 * k) ∧ ∀ y, Bk ν σ π A y → k ≤ pcn y)
    (fun n K hP => by
      show mX3_fewestToBreak_17 N (nI A) (n + 1) (nI 10) K = some (.inl K)
      rw [mX3_fewestToBreak_17, if_pos (by decide)])
    (fun n z K hz hP => by
      obtain ⟨f, ⟨m', hk', hm'⟩, p3⟩ := hP
      have hRK := hR.fr f (by simp)
      show (∃ s', mX3_fewestToBreak_17 N (nI A) (n + 1) (nI z) K = mX3_fewestToBreak_17 N (nI A) n (nI (z + 1)) s' ∧ _) ∨ ∃ r, mX3_fewestToBreak_17 N (nI A) (n + 1) (nI z) K = some r ∧ _
      have hn9 : ¬ (9 : Int32) < nI z := nI_nlt (a := 9) (by omega) (by omega)
      rcases c_few25 (N := N) (z := z) (m := m') hn g hwp hN (by omega) hA (by omega) hAt hRK hk' with ⟨K', m2, e, f', k2, l2, p2⟩ | ⟨v, K', m2, e, f', k2, l2, b1, b2, b3⟩
      · left
        have hle : m2 ≤ m + 512 * (z + 1) := le512 l2 hm'
        refine ⟨K', by rw [mX3_fewestToBreak_17, if_neg hn9, e, lb_l, nI_1], f.tr f', ⟨m2, k2, hle⟩, fun y hy => ?_⟩
        have h1 := p3 y hy
        have h2 := p2 y hy
        omega
      · right
        refine ⟨_, by rw [mX3_fewestToBreak_17, if_neg hn9, e, lb_r], v, K', m2, rfl, f.tr f', k2, by omega, b1, fun y hy => ?_⟩
        have h1 := p3 y hy
        by_cases h2 : pcn y = z
        · right
          refine ⟨by omega, ?_⟩
          rcases Nat.lt_or_ge y v with h3 | h3
          · exact absurd h2 (b3 y h3 hy)
          · exact h3
        · left; omega)
    N 0 I (Nat.zero_le _) (by omega) ⟨Fr.rf, ⟨m, hk, by omega⟩, fun y _ => by omega⟩
  rcases h9 with ⟨K, ⟨-, -, p3⟩, -⟩ | ⟨r, e, v, I', m', rfl, h⟩
  · have := p3 A (Bk_all A)
    have := pcn_9 A hA
    omega
  · exact ⟨v, I', m', e, h⟩
set_option maxHeartbeats 1000000 in
theorem m_brk (hn : WfN ν) (hw : WfW ν σ) (hwp : WfW ν π) (hN : 1000 ≤ N) {A : Nat} (hA : A < 512) (hR : RM ν σ π I) : ∃ v I', mX11_toBreak_30 N (nI A) N (-1) 0 I = some (nI v, I') ∧ Fr [328] I I' ∧ BkF ν σ π A v := by
  have sz : ∀ X, sub9 0 X := fun X i hi => by rw [Nat.zero_testBit] at hi; cases hi
  obtain ⟨s', hP, e⟩ := loopP (F := fun n (s : Int32 × gI) i => mX11_toBreak_30 N (nI A) n s.1 i s.2) (b := A + 1) (out := fun s => (s.1, s.2))
    (P := fun k s => Fr [328] I s.2 ∧ ((s.1 = -1 ∧ ∀ y, y < k → ¬ Bk ν σ π A y) ∨ ∃ b, s.1 = nI b ∧ b < k ∧ Bk ν σ π A b ∧ ∀ y, y < k → Bk ν σ π A y → pcn b < pcn y ∨ (pcn b = pcn y ∧ b ≤ y)))
    (fun n s hP => by
      show mX11_toBreak_30 N (nI A) (n + 1) s.1 (nI (A + 1)) s.2 = some (s.1, s.2)
      rw [mX11_toBreak_30, if_pos (nI_lt (by omega) (by omega))])
    (fun n v s hv hP => by
      obtain ⟨f, p⟩ := hP
      have hRs := hR.fr f
      have hnlt : ¬ nI A < nI v := nI_nlt (by omega) (by omega)
      by_cases hs : sub9 v A
      · obtain ⟨K, eK, fK, tK⟩ := m_laysC (N := N) (B := v) (A := A ^^^ v) hn hw hwp hN (xor512 hA (by omega)) hRs
        have hK0 := tK 0 (by omega) (sz _)
        rcases p with ⟨p1, p2⟩ | ⟨b, p1, p2, p3, p4⟩
        · have hd : mX11_toBreak_30 N (nI A) (n + 1) s.1 (nI v) s.2 = if K 328 0 = 0 then mX11_toBreak_30 N (nI A) n (-1) (nI (v + 1)) K else mX11_toBreak_30 N (nI A) n (nI v) (nI (v + 1)) K := by
            rw [mX11_toBreak_30, if_neg hnlt, if_pos ((sub9_iff (by omega)).mpr hs), p1, if_pos rfl, dif_xor (by omega) hs, eK, ob_some, nI_1]
            rfl
          rcases hK0 with ⟨x1, x2⟩ | ⟨x1, x2⟩
          · refine ⟨(nI v, K), by rw [show mX11_toBreak_30 N (nI A) (n + 1) s.1 (nI v) s.2 = _ from hd, x1, if_neg (by decide)], f.tr fK, Or.inr ⟨v, rfl, by omega, ⟨hs, x2⟩, fun y hy hb => ?_⟩⟩
            by_cases ey : y = v
            · right; rw [ey]; exact ⟨rfl, Nat.le_refl _⟩
            · exact absurd hb (p2 y (by omega))
          · refine ⟨(-1, K), by rw [show mX11_toBreak_30 N (nI A) (n + 1) s.1 (nI v) s.2 = _ from hd, x1, if_pos rfl], f.tr fK, Or.inl ⟨rfl, fun y hy hb => ?_⟩⟩
            by_cases ey : y = v
            · rw [ey] at hb; exact x2 hb.2
            · exact p2 y (by omega) hb
        · have hpv := pcn_9 v (by omega)
          have hpb := pcn_9 b (by omega)
          have hd0 : mX11_toBreak_30 N (nI A) (n + 1) s.1 (nI v) s.2 = if nI (pcn v) < nI (pcn b) then (Option.bind (mX11_laysCan N (nI A &&& (nI v ^^^ (-1))) (nI v) s.2) (fun I19 => if (I19 328 (0 : Int32).toNatClampNeg) = 0 then (mX11_toBreak_30 N (nI A) n (nI b) (nI v + 1) I19) else (mX11_toBreak_30 N (nI A) n (nI v) (nI v + 1) I19))) else mX11_toBreak_30 N (nI A) n (nI b) (nI v + 1) s.2 := by
            rw [mX11_toBreak_30, if_neg hnlt, if_pos ((sub9_iff (by omega)).mpr hs), p1, if_neg (nI_m1 (by omega)), m_bits (by omega), ob_some, m_bits (by omega), ob_some]
          by_cases hlt : pcn v < pcn b
          · have hd : mX11_toBreak_30 N (nI A) (n + 1) s.1 (nI v) s.2 = if K 328 0 = 0 then mX11_toBreak_30 N (nI A) n (nI b) (nI (v + 1)) K else mX11_toBreak_30 N (nI A) n (nI v) (nI (v + 1)) K := by
              rw [hd0, if_pos (nI_lt hlt (by omega)), dif_xor (by omega) hs, eK, ob_some, nI_1]
              rfl
            rcases hK0 with ⟨x1, x2⟩ | ⟨x1, x2⟩
            · refine ⟨(nI v, K), by rw [show mX11_toBreak_30 N (nI A) (n + 1) s.1 (nI v) s.2 = _ from hd, x1, if_neg (by decide)], f.tr fK, Or.inr ⟨v, rfl, by omega, ⟨hs, x2⟩, fun y hy hb => ?_⟩⟩
              by_cases ey : y = v
              · right; rw [ey]; exact ⟨rfl, Nat.le_refl _⟩
              · have := p4 y (by omega) hb
                left; omega
            · refine ⟨(nI b, K), by rw [show mX11_toBreak_30 N (nI A) (n + 1) s.1 (nI v) s.2 = _ from hd, x1, if_pos rfl], f.tr fK, Or.inr ⟨b, rfl, by omega, p3, fun y hy hb => ?_⟩⟩
              by_cases ey : y = v
              · rw [ey] at hb; exact absurd hb.2 x2
              · exact p4 y (by omega) hb
          · refine ⟨(nI b, s.2), by rw [show mX11_toBreak_30 N (nI A) (n + 1) s.1 (nI v) s.2 = _ from hd0, if_neg (nI_nlt (by omega) (by omega)), nI_1], f, Or.inr ⟨b, rfl, by omega, p3, fun y hy hb => ?_⟩⟩
            by_cases ey : y = v
            · subst ey; omega
            · exact p4 y (by omega) hb
      · refine ⟨s, ?_, f, ?_⟩
        · show mX11_toBreak_30 N (nI A) (n + 1) s.1 (nI v) s.2 = _
          rw [mX11_toBreak_30, if_neg hnlt, if_neg (fun e => hs ((sub9_iff (by omega)).mp e)), nI_1]
        · have no : ¬ Bk ν σ π A v := fun h => hs h.1
          rcases p with ⟨p1, p2⟩ | ⟨b, p1, p2, p3, p4⟩
          · exact Or.inl ⟨p1, fun y hy hb => by
              by_cases ey : y = v
              · rw [ey] at hb; exact no hb
              · exact p2 y (by omega) hb⟩
          · exact Or.inr ⟨b, p1, by omega, p3, fun y hy hb => by
              by_cases ey : y = v
              · rw [ey] at hb; exact absurd hb no
              · exact p4 y (by omega) hb⟩)
    N 0 (-1, I) (Nat.zero_le _) (by omega) ⟨Fr.rf, Or.inl ⟨rfl, fun y hy => by omega⟩⟩
  obtain ⟨f, p⟩ := hP
  rcases p with ⟨-, p2⟩ | ⟨b, p1, p2, p3, p4⟩
  · exact absurd (Bk_all A) (p2 A (by omega))
  · refine ⟨b, s'.2, ?_, f, p3, fun y hy => p4 y (by have := sub9_le hy.1; omega) hy⟩
    rw [show mX11_toBreak_30 N (nI A) N (-1) 0 I = _ from e, p1]
end Brk
section BrkS
variable {N : Nat}
set_option maxHeartbeats 1000000 in
theorem s_toBreak (hN : 100000000000 ≤ N) : St_toBreak N Inv := by
  intro c I J hc hInv
  obtain ⟨⟨ν, σ, ks, vs, hP⟩, mv⟩ := id hInv
  obtain ⟨hn, g, c1, m1, c2, m2, ac, sg, im, tp, ct⟩ := id hP
  have htn := hn.2.2.2.1
  have hww := g.wf hn
  have s0 : ∀ {K : gI}, Sm K (upd2 K 310 0 0) := Sm.rf.u0
  obtain ⟨I5, π, e5, hp, cs44, cs36, f5⟩ := c_plan (N := N) hn g c1 c2 (by omega)
  have c5 := c1.fr f5 (by simp)
  have sm5 : Sm I I5 := Sm.fr f5 (by simp [sc])
  have hP5 := hP.sm sm5
  have mv5 := mv.sm sm5
  obtain ⟨hway, hwp⟩ := pln_all hn g hp
  have hR5 : RC ν σ π I5 := ⟨c5, cs36, cs44⟩
  have hA := mk9_512 hn (mvP σ π)
  have eA := c_mvs (N := N) hn c5 cs36 cs44 g hway (by omega)
  obtain ⟨A, hAe⟩ : ∃ A, A = mk9 (mvP σ π) ν.tn := ⟨_, rfl⟩
  rw [← hAe] at hA eA
  obtain ⟨I6, e6, f6⟩ := c_ends (N := N) hn hR5 hww hwp (by omega) A
  have hR6 := hR5.fr f6 (by simp)
  have sm6 : Sm I I6 := sm5.tr (Sm.fr f6 (by simp [sc]))
  have ref : ∀ K : gI, NetM ν K → MS ν 317 0 σ K → ∃ I7, mX11_laysPlan N (upd2 K 310 0 0) = some I7 ∧ Sm K I7 ∧ RM ν σ π I7 := by
    intro K hm hs
    have hs' : MS ν 317 0 σ (upd2 K 310 0 0) := hs.c (u2_c (by decide))
    obtain ⟨I7, e7, f7, -, p7⟩ := m_plan (N := N) hn g (hm.sm s0) hs' hN hp
    exact ⟨I7, e7, s0.tr (Sm.fpl f7), (hm.sm s0).fpl f7, MS.fr hn hww hs' (fun j _ hj => f7.2.2 j (by omega)), p7⟩
  by_cases hb : bkd ν σ π 0 A 0 = true
  · rw [if_pos hb] at e6
    obtain ⟨m, m1', m2', m3'⟩ := mv.sm sm6
    obtain ⟨v, I8, m', e8, f8, k8, l8, hv⟩ := c_few (N := N) (A := A) (m := m) hn g hwp (by omega) (by omega) hA (fun t ht => by
      rw [hAe, mk9_tb] at ht
      simp at ht
      exact ht.1) hR6 ⟨m2', m3'⟩
    have hP6 := hP.sm sm6
    have hm8 : NetM ν I8 := hP6.2.2.2.1.fr f8 (by simp) (by simp) (by simp)
    have hs8 : MS ν 317 0 σ I8 := hP6.2.2.2.2.2.1.c (f8 317 (by simp))
    obtain ⟨I7, e7, s7, hR7⟩ := ref I8 hm8 hs8
    obtain ⟨v', I9, e9, f9, hv'⟩ := m_brk (N := N) hn hww hwp (by omega) hA hR7
    obtain rfl := BkF_one hv hv'
    have s9 : Sm I8 I9 := s7.tr (Sm.fr f9 (by simp [sc]))
    refine ⟨nI v, I8, I9, ?_, ?_, ?_⟩
    · unfold mX10_toBreak mX3_fewestToBreak
      rw [e5, ob_some, eA, ob_some, e6, ob_some]
      dsimp only
      rw [if_neg (show ¬ (1 : Int32) = 0 by decide), e8, lb_r, ob_some]
    · unfold mX11_toBreak
      rw [e7, ob_some, m_mvs hn hR7 hww hwp (by omega), ob_some, ← hAe, show mX11_isBooked N (nI A) 0 0 I7 = _ from m_booked (B := 0) (s := A) (u := 0) hn hR7 hww hwp (by omega), ob_some, if_pos hb, if_neg (show ¬ (1 : Int32) = 0 by decide), e9, ob_some]
    · exact mv_fin (m := m') hP ((Sm3.sm sm6).tr ((Sm3.fr f8 (by simp [sc])).tr (Sm3.sm s9))) (by omega) (by rw [s9 43 8 (by unfold Kp; omega)]; exact k8.1) (fun x hx => by rw [s9 49 x (by unfold Kp; omega)]; exact k8.2 x hx)
  · rw [if_neg hb] at e6
    have hP6 := hP.sm sm6
    obtain ⟨I7, e7, s7, hR7⟩ := ref I6 hP6.2.2.2.1 hP6.2.2.2.2.2.1
    refine ⟨-1, I6, I7, ?_, ?_, hInv.sm (sm6.tr s7)⟩
    · unfold mX10_toBreak mX3_fewestToBreak
      rw [e5, ob_some, eA, ob_some, e6, ob_some]
      dsimp only
      rw [if_pos rfl, ob_some]
    · unfold mX11_toBreak
      rw [e7, ob_some, m_mvs hn hR7 hww hwp (by omega), ob_some, ← hAe, show mX11_isBooked N (nI A) 0 0 I7 = _ from m_booked (B := 0) (s := A) (u := 0) hn hR7 hww hwp (by omega), ob_some, if_neg hb, if_pos rfl]
end BrkS
