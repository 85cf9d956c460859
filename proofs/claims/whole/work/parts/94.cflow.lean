/-! the class's most flow -/
def cpF (ν : Nt) (σ : St) (p l : Nat) : Int := if bt σ.up l = true ∧ 0 < pl ν σ 99 l p then pl ν σ 99 l p else 0
def vC (e : Nat) : Int32 := if e < 16 then nI e else zI ((e : Int) - 32)
theorem vC_ok : ∀ e, e < 32 → (vC e) &&& 15 = nI (eL e) ∧ ((0 : Int32) ≤ vC e ↔ e < 16) := by decide +kernel
theorem vC_b : ∀ k, k < 16 → nI k - 16 = vC (16 + k) := by decide +kernel
theorem i_10 : ((1 : Int32) = 0) = False := eq_false (by decide)
theorem bq {R x : Nat} (hx : x < 32) : (if ((ushr (nI R) (nI x)) &&& 1) = 0 then (some 0) else (some 1) : Option Int32) = some (if R.testBit x = true then 1 else 0) := by
  by_cases h : R.testBit x = true
  · rw [if_neg (fun e => by rw [cb0 hx, b_nI hx, h] at e; cases e), if_pos h]
  · have h' : R.testBit x = false := by simpa using h
    rw [if_pos ((cb0 hx _).mpr (by rw [b_nI hx]; exact h')), if_neg h]
section CFlow
variable {ν : Nt} {σ : St} {N p a z : Nat} {I : gI} {f : Nat → Int} {v : Int}
theorem cpF_bd (hn : WfN ν) (hw : WfW ν σ) {l : Nat} (hl : l < ν.ln) : 0 ≤ cpF ν σ p l ∧ cpF ν σ p l ≤ 99 := by
  have := pl_sml (x := 99) (p := p) hn hw hl
  unfold cpF
  split <;> omega
def FlC (ν : Nt) (σ : St) (p : Nat) (f : Nat → Int) (I : gI) : Prop := (∀ l, l < ν.ln → I 31 l = zI (pl ν σ 99 l p)) ∧ ∀ l, l < ν.ln → I 34 l = zI (f l)
def ViaC (R a : Nat) (via : Nat → Nat) (I : gI) : Prop := ∀ x, R.testBit x = true → x ≠ a → I 35 x = vC (via x)
set_option maxHeartbeats 2000000 in
theorem c_fm27 (hn : WfN ν) (hI : NetC ν I) (hfl : FlC ν σ p f I) (hw : WfW ν σ) (hN : 100 ≤ N) (hf : ∀ l, l < ν.ln → 0 ≤ f l ∧ f l ≤ cpF ν σ p l) {R0 : Nat} {via0 rk0 : Nat → Nat} (hF : FO ν (cpF ν σ p) f a R0 via0 rk0) (hv : ViaC R0 a via0 I) {k3 k5 : Int32} : ∃ R via rk I', mX6_findMore_27 σ.up k3 k5 N (nI R0) 0 I = some (nI R, I') ∧ Fr [35] I I' ∧ FO ν (cpF ν σ p) f a R via rk ∧ ViaC R a via I' ∧ ((∀ l, l < ν.ln → clF ν (cpF ν σ p) f R0 l) → R = R0) ∧ ((R = R0 ∧ ∀ l, l < ν.ln → clF ν (cpF ν σ p) f R l) ∨ pcn R0 < pcn R) := by
  have hln := hn.2.2.1
  have hnn := hn.2.1
  obtain ⟨s', hP, e⟩ := loopP (F := fun n (s : Int32 × gI) i => mX6_findMore_27 σ.up k3 k5 n s.1 i s.2) (b := ν.ln) (out := fun s => (s.1, s.2))
    (P := fun k s => ∃ R via rk, s.1 = nI R ∧ Fr [35] I s.2 ∧ FO ν (cpF ν σ p) f a R via rk ∧ ViaC R a via s.2 ∧ ((∀ l, l < ν.ln → clF ν (cpF ν σ p) f R0 l) → R = R0) ∧ ((R = R0 ∧ ∀ l, l < k → clF ν (cpF ν σ p) f R l) ∨ pcn R0 < pcn R))
    (fun n s hP => by
      obtain ⟨R, via, rk, e1, fr, -⟩ := hP
      show mX6_findMore_27 σ.up k3 k5 (n + 1) s.1 (nI ν.ln) s.2 = some (s.1, s.2)
      rw [mX6_findMore_27, (hI.fr fr (by simp)).2.1, if_pos (nI_le (Nat.le_refl _) (by omega))])
    (fun n k s hk hP => by
      obtain ⟨R, via, rk, e1, fr, hFR, hvR, hcl, hgr⟩ := hP
      have hL := hn.2.2.2.2.1 k hk
      have hIs := hI.fr fr (by simp)
      have e3 : s.2 3 k = nI (ν.L k 0) := hIs.2.2.2.1 k hk 0 (by decide)
      have e4 : s.2 4 k = nI (ν.L k 1) := hIs.2.2.2.1 k hk 1 (by decide)
      have e31 : s.2 31 k = zI (pl ν σ 99 k p) := by rw [fr 31 (by simp)]; exact hfl.1 k hk
      have e34 : s.2 34 k = zI (f k) := by rw [fr 34 (by simp)]; exact hfl.2 k hk
      have hb := pl_sml (x := 99) (p := p) hn hw hk
      have hfk := hf k hk
      have hck := cpF_bd (p := p) hn hw hk
      have bo : (if ((ushr σ.up (nI k)) &&& 1) = 0 then (some 0) else (if zI (pl ν σ 99 k p) ≤ zI (f k) then (some 0) else (some 1)) : Option Int32) = some (if f k < cpF ν σ p k then 1 else 0) := by
        by_cases hu : bt σ.up k = true
        · rw [if_neg (fun e => by rw [cb0 (by omega), hu] at e; cases e)]
          by_cases h0 : 0 < pl ν σ 99 k p
          · have ec : cpF ν σ p k = pl ν σ 99 k p := if_pos ⟨hu, h0⟩
            by_cases h1 : pl ν σ 99 k p ≤ f k
            · rw [if_pos ((zI_le ⟨by omega, by omega⟩ ⟨by omega, by omega⟩).mpr h1), if_neg (show ¬ f k < cpF ν σ p k by omega)]
            · rw [if_neg (fun h => h1 ((zI_le ⟨by omega, by omega⟩ ⟨by omega, by omega⟩).mp h)), if_pos (show f k < cpF ν σ p k by omega)]
          · have ec : cpF ν σ p k = 0 := if_neg (fun h => h0 h.2)
            rw [if_pos ((zI_le ⟨by omega, by omega⟩ ⟨by omega, by omega⟩).mpr (show pl ν σ 99 k p ≤ f k by omega)), if_neg (show ¬ f k < cpF ν σ p k by omega)]
        · have hu' : bt σ.up k = false := by simpa using hu
          have ec : cpF ν σ p k = 0 := if_neg (fun h => hu h.1)
          rw [if_pos ((cb0 (by omega) _).mpr hu'), if_neg (show ¬ f k < cpF ν σ p k by omega)]
      have base : mX6_findMore_27 σ.up k3 k5 (n + 1) s.1 (nI k) s.2 = (if R.testBit (ν.L k 0) = true then (if R.testBit (ν.L k 1) = true then mX6_findMore_27 σ.up k3 k5 n (nI R) (nI (k + 1)) s.2 else (if f k < cpF ν σ p k then mX6_findMore_27 σ.up k3 k5 n (nI (R ||| 2 ^ ν.L k 1)) (nI (k + 1)) (upd2 s.2 35 (ν.L k 1) (nI k)) else mX6_findMore_27 σ.up k3 k5 n (nI R) (nI (k + 1)) s.2)) else (if R.testBit (ν.L k 1) = true then (if 0 < f k then mX6_findMore_27 σ.up k3 k5 n (nI (R ||| 2 ^ ν.L k 0)) (nI (k + 1)) (upd2 s.2 35 (ν.L k 0) (nI k - 16)) else mX6_findMore_27 σ.up k3 k5 n (nI R) (nI (k + 1)) s.2) else mX6_findMore_27 σ.up k3 k5 n (nI R) (nI (k + 1)) s.2)) := by
        rw [mX6_findMore_27, hIs.2.1, if_neg (nI_ge hk (by omega)), ck_n (by omega) (by decide), nI_clamp (by omega), e3, e4, e1, bq (by omega), ob_some, bq (by omega), ob_some, e31, e34, bo, ob_some, nI_clamp (by omega), nI_clamp (by omega), u2_c (show (3 : Nat) ≠ 35 by decide), u2_c (show (4 : Nat) ≠ 35 by decide), e3, e4, nm_n, nm_n, sh1_n _ (by omega), sh1_n _ (by omega), nx_or, nx_or, nI_1, ck_n (show ν.L k 0 < 8 by omega) (by decide), ck_n (show ν.L k 1 < 8 by omega) (by decide)]
        have e0 : (zI (f k) ≤ (0 : Int32)) = ¬ 0 < f k := by
          rw [show (0 : Int32) = zI 0 from rfl]
          exact propext ((zI_le ⟨by omega, by omega⟩ ⟨by omega, by omega⟩).trans ⟨fun h => by omega, fun h => by omega⟩)
        by_cases h1 : R.testBit (ν.L k 0) = true <;> by_cases h2 : R.testBit (ν.L k 1) = true <;> by_cases h3 : f k < cpF ν σ p k <;> by_cases h4 : 0 < f k <;> simp [h1, h2, h3, h4, e0, i_10]
      have done : ∀ x e : Nat, x < 8 → R.testBit x = false → e < 32 → eL e < ν.ln → eNd ν e = x → 0 < eRs (cpF ν σ p) f e → R.testBit (ePv ν e) = true → (¬ clF ν (cpF ν σ p) f R k) → mX6_findMore_27 σ.up k3 k5 (n + 1) s.1 (nI k) s.2 = mX6_findMore_27 σ.up k3 k5 n (nI (R ||| 2 ^ x)) (nI (k + 1)) (upd2 s.2 35 x (vC e)) → ∃ s9 : Int32 × gI, mX6_findMore_27 σ.up k3 k5 (n + 1) s.1 (nI k) s.2 = mX6_findMore_27 σ.up k3 k5 n s9.1 (nI (k + 1)) s9.2 ∧ ∃ R via rk, s9.1 = nI R ∧ Fr [35] I s9.2 ∧ FO ν (cpF ν σ p) f a R via rk ∧ ViaC R a via s9.2 ∧ ((∀ l, l < ν.ln → clF ν (cpF ν σ p) f R0 l) → R = R0) ∧ ((R = R0 ∧ ∀ l, l < k + 1 → clF ν (cpF ν σ p) f R l) ∨ pcn R0 < pcn R) := by
        intro x e hx hxR he hl hnd hrs hpv hncl hd
        obtain ⟨hF', hp'⟩ := FO_add hFR hx hxR he hl hnd hrs hpv
        refine ⟨(nI (R ||| 2 ^ x), upd2 s.2 35 x (vC e)), hd, R ||| 2 ^ x, _, _, rfl, fr.u2 (by simp), hF', fun y hy hya => ?_, fun hc => ?_, Or.inr ?_⟩
        · show upd2 s.2 35 x (vC e) 35 y = vC (if y = x then e else via y)
          by_cases ey : y = x
          · rw [ey, u2_at, if_pos rfl]
          · rw [u2_ne (fun h => ey h.2), if_neg ey]
            refine hvR y ?_ hya
            rw [Nat.testBit_or, Nat.testBit_two_pow] at hy
            have ey' : ¬ x = y := fun h => ey h.symm
            simpa [ey'] using hy
        · have := hcl hc
          rw [this] at hncl
          exact absurd (hc k hk) hncl
        · rcases hgr with ⟨h1, -⟩ | h1
          · rw [← h1]; omega
          · omega
      have skip : clF ν (cpF ν σ p) f R k → mX6_findMore_27 σ.up k3 k5 (n + 1) s.1 (nI k) s.2 = mX6_findMore_27 σ.up k3 k5 n (nI R) (nI (k + 1)) s.2 → ∃ s9 : Int32 × gI, mX6_findMore_27 σ.up k3 k5 (n + 1) s.1 (nI k) s.2 = mX6_findMore_27 σ.up k3 k5 n s9.1 (nI (k + 1)) s9.2 ∧ ∃ R via rk, s9.1 = nI R ∧ Fr [35] I s9.2 ∧ FO ν (cpF ν σ p) f a R via rk ∧ ViaC R a via s9.2 ∧ ((∀ l, l < ν.ln → clF ν (cpF ν σ p) f R0 l) → R = R0) ∧ ((R = R0 ∧ ∀ l, l < k + 1 → clF ν (cpF ν σ p) f R l) ∨ pcn R0 < pcn R) := by
        intro hc hd
        refine ⟨(nI R, s.2), hd, R, via, rk, rfl, fr, hFR, hvR, hcl, ?_⟩
        rcases hgr with ⟨h1, h2⟩ | h1
        · refine Or.inl ⟨h1, fun l hl => ?_⟩
          by_cases el : l = k
          · rw [el]; exact hc
          · exact h2 l (by omega)
        · exact Or.inr h1
      show ∃ s9 : Int32 × gI, mX6_findMore_27 σ.up k3 k5 (n + 1) s.1 (nI k) s.2 = mX6_findMore_27 σ.up k3 k5 n s9.1 (nI (k + 1)) s9.2 ∧ _
      cases h1 : R.testBit (ν.L k 0) with
      | true =>
        rw [if_pos h1] at base
        cases h2 : R.testBit (ν.L k 1) with
        | true =>
          rw [if_pos h2] at base
          exact skip ⟨fun _ h => Bool.noConfusion (h2.symm.trans h), fun h _ => Bool.noConfusion (h1.symm.trans h)⟩ base
        | false =>
          rw [if_neg (by rw [h2]; decide)] at base
          by_cases h3 : f k < cpF ν σ p k
          · rw [if_pos h3] at base
            have e16 : k < 16 := by omega
            refine done (ν.L k 1) k (by omega) h2 (by omega) (by unfold eL; rw [if_pos e16]; exact hk) (by unfold eNd; rw [if_pos e16]) (by unfold eRs; rw [if_pos e16]; omega) (by unfold ePv; rw [if_pos e16]; exact h1) (fun h => h.1 h1 h2 h3) ?_
            rw [base]
            unfold vC
            rw [if_pos e16]
          · rw [if_neg h3] at base
            exact skip ⟨fun _ _ => h3, fun h _ => Bool.noConfusion (h1.symm.trans h)⟩ base
      | false =>
        rw [if_neg (by rw [h1]; decide)] at base
        cases h2 : R.testBit (ν.L k 1) with
        | true =>
          rw [if_pos h2] at base
          by_cases h3 : 0 < f k
          · rw [if_pos h3] at base
            have e16 : ¬ 16 + k < 16 := by omega
            have ek : 16 + k - 16 = k := by omega
            refine done (ν.L k 0) (16 + k) (by omega) h1 (by omega) (by unfold eL; rw [if_neg e16, ek]; exact hk) (by unfold eNd; rw [if_neg e16, ek]) (by unfold eRs; rw [if_neg e16, ek]; exact h3) (by unfold ePv; rw [if_neg e16, ek]; exact h2) (fun h => h.2 h1 h2 h3) ?_
            rw [base, vC_b k (by omega)]
          · rw [if_neg h3] at base
            exact skip ⟨fun h _ => Bool.noConfusion (h1.symm.trans h), fun _ _ => h3⟩ base
        | false =>
          rw [if_neg (by rw [h2]; decide)] at base
          exact skip ⟨fun h _ => Bool.noConfusion (h1.symm.trans h), fun _ h => Bool.noConfusion (h2.symm.trans h)⟩ base)
    N 0 (nI R0, I) (Nat.zero_le _) (by omega) ⟨R0, via0, rk0, rfl, Fr.rf, hF, hv, fun _ => rfl, Or.inl ⟨rfl, fun l hl => by omega⟩⟩
  obtain ⟨R, via, rk, e1, h⟩ := hP
  exact ⟨R, via, rk, s'.2, by rw [show mX6_findMore_27 σ.up k3 k5 N (nI R0) 0 I = _ from e, e1], h⟩
theorem c_fm8 (hn : WfN ν) (hw : WfW ν σ) (hN : 100 ≤ N) (hz : z < 8) (hf : ∀ l, l < ν.ln → 0 ≤ f l ∧ f l ≤ cpF ν σ p l) : ∀ (m fu j R : Nat) (via rk : Nat → Nat) (I : gI), j + m = 8 → m < fu → NetC ν I → FlC ν σ p f I → FO ν (cpF ν σ p) f a R via rk → ViaC R a via I → ((∀ l, l < ν.ln → clF ν (cpF ν σ p) f R l) ∨ j < pcn R) → ∃ R' via' rk' I', mX6_findMore_8 N σ.up (nI z) fu (nI R) (nI j) I = some (nI R', I') ∧ Fr [35] I I' ∧ FO ν (cpF ν σ p) f a R' via' rk' ∧ ViaC R' a via' I' ∧ (R'.testBit z = true ∨ ∀ l, l < ν.ln → clF ν (cpF ν σ p) f R' l) := by
  intro m
  induction m with
  | zero =>
    intro fu j R via rk I hj hm hI hfl hF hv hg
    obtain ⟨n, rfl⟩ : ∃ n, fu = n + 1 := ⟨fu - 1, by omega⟩
    refine ⟨R, via, rk, I, by rw [mX6_findMore_8, if_pos (show (8 : Int32) ≤ nI j from nI_le (a := 8) (by omega) (by omega))], Fr.rf, hF, hv, Or.inr ?_⟩
    rcases hg with h | h
    · exact h
    · have := pcn_8b hF.1; omega
  | succ m ih =>
    intro fu j R via rk I hj hm hI hfl hF hv hg
    obtain ⟨n, rfl⟩ : ∃ n, fu = n + 1 := ⟨fu - 1, by omega⟩
    have h8 : ¬ (8 : Int32) ≤ nI j := nI_ge (b := 8) (by omega) (by omega)
    by_cases hRz : R.testBit z = true
    · exact ⟨R, via, rk, I, by rw [mX6_findMore_8, if_neg h8, if_neg (fun e => by rw [cb0 (by omega), b_nI (by omega), hRz] at e; cases e)], Fr.rf, hF, hv, Or.inl hRz⟩
    · have hRz' : R.testBit z = false := by simpa using hRz
      obtain ⟨R1, via1, rk1, I1, e1, f1, hF1, hv1, hc1, hg1⟩ := c_fm27 (N := N) (k3 := nI z) (k5 := nI j) hn hI hfl hw hN hf hF hv
      obtain ⟨R', via', rk', I', e', f', h'⟩ := ih n (j + 1) R1 via1 rk1 I1 (by omega) (by omega) (hI.fr f1 (by simp)) ⟨fun l hl => by rw [f1 31 (by simp)]; exact hfl.1 l hl, fun l hl => by rw [f1 34 (by simp)]; exact hfl.2 l hl⟩ hF1 hv1 (by
        rcases hg1 with h | h
        · exact Or.inl h.2
        · rcases hg with h2 | h2
          · rw [hc1 h2] at h; omega
          · right; omega)
      refine ⟨R', via', rk', I', ?_, f1.tr f', h'⟩
      rw [mX6_findMore_8, if_neg h8, if_pos ((cb0 (by omega) _).mpr (by rw [b_nI (by omega)]; exact hRz')), e1, ob_some]
      dsimp only
      rw [nI_1, e']
theorem c_find (hn : WfN ν) (hI : NetC ν I) (hfl : FlC ν σ p f I) (hw : WfW ν σ) (hN : 100 ≤ N) (ha : a < 8) (hz : z < 8) (hf : ∀ l, l < ν.ln → 0 ≤ f l ∧ f l ≤ cpF ν σ p l) : ∃ r I' R via rk, mX6_findMore N σ.up (nI a) (nI z) I = some (r, I') ∧ Fr [35] I I' ∧ FO ν (cpF ν σ p) f a R via rk ∧ ViaC R a via I' ∧ ((r = 0 ∧ R.testBit z = false ∧ ∀ l, l < ν.ln → clF ν (cpF ν σ p) f R l) ∨ (r = 1 ∧ R.testBit z = true)) := by
  have hv0 : ViaC (2 ^ a) a (fun _ => 0) I := fun x hx hne => by
    rw [Nat.testBit_two_pow] at hx
    exact absurd (of_decide_eq_true hx).symm hne
  obtain ⟨R, via, rk, I', e, fr, hF, hv, h⟩ := c_fm8 (N := N) (z := z) hn hw hN hz hf 8 N 0 (2 ^ a) (fun _ => 0) (fun _ => 0) I (by omega) (by omega) hI hfl (FO_0 ha) hv0 (Or.inr (by rw [pcn_pow a (by omega)]; omega))
  have hd : mX6_findMore N σ.up (nI a) (nI z) I = if R.testBit z = true then some (1, I') else some (0, I') := by
    unfold mX6_findMore
    rw [sh1_n a (by omega), show mX6_findMore_8 N σ.up (nI z) N (nI (2 ^ a)) 0 I = _ from e, ob_some]
    dsimp only
    by_cases hz' : R.testBit z = true
    · rw [if_neg (fun e => by rw [cb0 (by omega), b_nI (by omega), hz'] at e; cases e), if_pos hz']
    · rw [if_pos ((cb0 (by omega) _).mpr (by rw [b_nI (by omega)]; simpa using hz')), if_neg hz']
  by_cases hz' : R.testBit z = true
  · exact ⟨1, I', R, via, rk, by rw [hd, if_pos hz'], fr, hF, hv, Or.inr ⟨rfl, hz'⟩⟩
  · refine ⟨0, I', R, via, rk, by rw [hd, if_neg hz'], fr, hF, hv, Or.inl ⟨rfl, by simpa using hz', ?_⟩⟩
    rcases h with h | h
    · exact absurd h hz'
    · exact h
theorem c_s9 (hn : WfN ν) (hI : NetC ν I) (hfl : FlC ν σ p f I) (hw : WfW ν σ) (hf : ∀ l, l < ν.ln → 0 ≤ f l ∧ f l ≤ cpF ν σ p l) (ha : a < 8) {R : Nat} {via rk : Nat → Nat} (hF : FO ν (cpF ν σ p) f a R via rk) (hv : ViaC R a via I) {k2 : Int32} : ∀ (k x j fu : Nat) (m : Int), rk x ≤ k → R.testBit x = true → j + k ≤ 7 → k < fu → 1 ≤ m → m ≤ 1000000 → ∃ m', mX6_sendMore_9 (nI a) k2 I fu (zI m) (nI x) (nI j) = some (zI m') ∧ 1 ≤ m' ∧ m' ≤ m ∧ onP ν (cpF ν σ p) f a via m' k x := by
  have hln := hn.2.2.1
  intro k
  induction k with
  | zero =>
    intro x j fu m hr hx hj hfu h1 h2
    obtain ⟨n, rfl⟩ : ∃ n, fu = n + 1 := ⟨fu - 1, by omega⟩
    have hxa : x = a := by
      apply Classical.byContradiction
      intro hne
      have := (hF.2.2.2 x hx hne).2.2.2.2.2
      omega
    refine ⟨m, ?_, h1, Int.le_refl _, hxa⟩
    rw [mX6_sendMore_9, if_neg (show ¬ (8 : Int32) ≤ nI j from nI_ge (b := 8) (by omega) (by omega)), if_pos (by rw [hxa])]
  | succ k ih =>
    intro x j fu m hr hx hj hfu h1 h2
    obtain ⟨n, rfl⟩ : ∃ n, fu = n + 1 := ⟨fu - 1, by omega⟩
    have hx8 := FO_8 hF hx
    have h8 : ¬ (8 : Int32) ≤ nI j := nI_ge (b := 8) (by omega) (by omega)
    by_cases hxa : x = a
    · refine ⟨m, ?_, h1, Int.le_refl _, Or.inl hxa⟩
      rw [mX6_sendMore_9, if_neg h8, if_pos (by rw [hxa])]
    · obtain ⟨q1, q2, q3, q4, q5, q6⟩ := hF.2.2.2 x hx hxa
      have hvo := vC_ok (via x) q1
      have hpv8 := FO_8 hF q5
      have hc := cpF_bd (p := p) hn hw q2
      have hfl' := hf _ q2
      have hrs : eRs (cpF ν σ p) f (via x) ≤ 99 := by
        unfold eRs
        unfold eL at hc hfl'
        by_cases h : via x < 16
        · rw [if_pos h] at hc hfl' ⊢; omega
        · rw [if_neg h] at hc hfl' ⊢; omega
      obtain ⟨m1, hm1⟩ : ∃ m1, m1 = if eRs (cpF ν σ p) f (via x) < m then eRs (cpF ν σ p) f (via x) else m := ⟨_, rfl⟩
      have hm1' : 1 ≤ m1 ∧ m1 ≤ m ∧ m1 ≤ eRs (cpF ν σ p) f (via x) := by rw [hm1]; split <;> omega
      obtain ⟨m', e', h1', h2', h3'⟩ := ih (ePv ν (via x)) (j + 1) n m1 (by omega) q5 (by omega) (by omega) (by omega) (by omega)
      refine ⟨m', ?_, h1', by omega, Or.inr ⟨by omega, h3'⟩⟩
      have emin : (if zI (eRs (cpF ν σ p) f (via x)) < zI m then zI (eRs (cpF ν σ p) f (via x)) else zI m) = zI m1 := by
        rw [hm1]
        by_cases h : eRs (cpF ν σ p) f (via x) < m
        · rw [if_pos h, if_pos ((zI_lt ⟨by omega, by omega⟩ ⟨by omega, by omega⟩).mpr h)]
        · rw [if_neg h, if_neg (fun h' => h ((zI_lt ⟨by omega, by omega⟩ ⟨by omega, by omega⟩).mp h'))]
      have e31 := hfl.1 _ q2
      have e34 := hfl.2 _ q2
      have e3 : I 3 (eL (via x)) = nI (ν.L (eL (via x)) 0) := hI.2.2.2.1 _ q2 0 (by decide)
      have e4 : I 4 (eL (via x)) = nI (ν.L (eL (via x)) 1) := hI.2.2.2.1 _ q2 1 (by decide)
      rw [mX6_sendMore_9, if_neg h8, if_neg (fun e => hxa ((nI_eq (by omega) (by omega)).mp e)), ck_n hx8 (by decide), nI_clamp (by omega), hv x hx hxa, hvo.1, nI_clamp (by omega)]
      by_cases h16 : via x < 16
      · have eLx : eL (via x) = via x := if_pos h16
        have eR : eRs (cpF ν σ p) f (via x) = cpF ν σ p (via x) - f (via x) := if_pos h16
        have eP : ePv ν (via x) = ν.L (via x) 0 := if_pos h16
        rw [eLx] at hfl'
        have ec : cpF ν σ p (via x) = pl ν σ 99 (via x) p := by
          unfold cpF
          unfold cpF at q4 eR hfl'
          by_cases hcc : bt σ.up (via x) = true ∧ 0 < pl ν σ 99 (via x) p
          · rw [if_pos hcc]
          · rw [if_neg hcc] at eR hfl'
            have : eRs (fun l => if bt σ.up l = true ∧ 0 < pl ν σ 99 l p then pl ν σ 99 l p else 0) f (via x) = 0 - f (via x) := eR
            omega
        rw [if_pos (hvo.2.mpr h16), ob_some, if_pos rfl, ck_n (show eL (via x) < 16 by omega) (by decide), nm_n, ob_some, if_pos rfl, ck_n (show eL (via x) < 16 by omega) (by decide), e31, e34, e3, nI_1, zI_sub, eLx, ← ec, ← eR, emin, ← eP, e']
      · have eLx : eL (via x) = via x - 16 := if_neg h16
        have eR : eRs (cpF ν σ p) f (via x) = f (via x - 16) := if_neg h16
        have eP : ePv ν (via x) = ν.L (via x - 16) 1 := if_neg h16
        rw [if_neg (fun e => h16 (hvo.2.mp e)), ob_some, if_neg (show ¬ (1 : Int32) = 0 by decide), ck_n (show eL (via x) < 16 by omega) (by decide), ob_some, if_neg (show ¬ (1 : Int32) = 0 by decide), ck_n (show eL (via x) < 16 by omega) (by decide), e34, e4, nI_1, eLx, ← eR, emin, ← eP, e']
theorem c_s128 (hn : WfN ν) (hf : ∀ l, l < ν.ln → 0 ≤ f l ∧ f l ≤ cpF ν σ p l) (ha : a < 8) {R : Nat} {via rk : Nat → Nat} (hF : FO ν (cpF ν σ p) f a R via rk) {m : Int} (hm : 1 ≤ m) : ∀ (k x j fu : Nat) (g : Nat → Int) (I : gI), rk x ≤ k → R.testBit x = true → j + k ≤ 7 → k < fu → NetC ν I → ViaC R a via I → (∀ l, l < ν.ln → I 34 l = zI (g l)) → onP ν (cpF ν σ p) f a via m k x → GI ν (cpF ν σ p) f a z R via rk m g x → ∃ g' I', mX6_sendMore_128 (nI a) (zI m) fu (nI x) (nI j) I = some I' ∧ Fr [34] I I' ∧ (∀ l, l < ν.ln → I' 34 l = zI (g' l)) ∧ GI ν (cpF ν σ p) f a z R via rk m g' a := by
  have hln := hn.2.2.1
  intro k
  induction k with
  | zero =>
    intro x j fu g I hr hx hj hfu hI hv hg ho hG
    obtain ⟨n, rfl⟩ : ∃ n, fu = n + 1 := ⟨fu - 1, by omega⟩
    have hxa : x = a := ho
    refine ⟨g, I, ?_, Fr.rf, hg, by subst hxa; exact hG⟩
    rw [mX6_sendMore_128, if_neg (show ¬ (8 : Int32) ≤ nI j from nI_ge (b := 8) (by omega) (by omega)), if_pos (by rw [hxa])]
  | succ k ih =>
    intro x j fu g I hr hx hj hfu hI hv hg ho hG
    obtain ⟨n, rfl⟩ : ∃ n, fu = n + 1 := ⟨fu - 1, by omega⟩
    have hx8 := FO_8 hF hx
    have h8 : ¬ (8 : Int32) ≤ nI j := nI_ge (b := 8) (by omega) (by omega)
    by_cases hxa : x = a
    · refine ⟨g, I, ?_, Fr.rf, hg, by subst hxa; exact hG⟩
      rw [mX6_sendMore_128, if_neg h8, if_pos (by rw [hxa])]
    · obtain ⟨q1, q2, q3, q4, q5, q6⟩ := hF.2.2.2 x hx hxa
      have hvo := vC_ok (via x) q1
      have hpv8 := FO_8 hF q5
      rcases ho with ho | ⟨ho1, ho2⟩
      · exact absurd ho hxa
      obtain ⟨-, hG'⟩ := GI_step hF (by omega) hG hx hxa ho1 hf
      obtain ⟨d, hd⟩ : ∃ d, d = upf g (eL (via x)) (eSg m (via x)) (eL (via x)) := ⟨_, rfl⟩
      have hd' : d = g (eL (via x)) + eSg m (via x) := by rw [hd]; exact if_pos rfl
      obtain ⟨K, hK⟩ : ∃ K, K = upd2 I 34 (eL (via x)) (zI d) := ⟨_, rfl⟩
      have fK : Fr [34] I K := by rw [hK]; exact Fr.rf.u2 (by simp)
      have hIK := hI.fr fK (by simp)
      obtain ⟨g', I', e', f', hg', hGa⟩ := ih (ePv ν (via x)) (j + 1) n (upf g (eL (via x)) (eSg m (via x))) K (by omega) q5 (by omega) (by omega) hIK (fun y hy hya => by rw [fK 35 (by simp)]; exact hv y hy hya) (fun l hl => by
        rw [hK]
        by_cases el : l = eL (via x)
        · rw [el, u2_at, hd]
        · rw [u2_ne (fun h => el h.2), hg l hl]
          unfold upf
          rw [if_neg el]) ho2 hG'
      refine ⟨g', I', ?_, fK.tr f', hg', hGa⟩
      have e3 : K 3 (eL (via x)) = nI (ν.L (eL (via x)) 0) := hIK.2.2.2.1 _ q2 0 (by decide)
      have e4 : K 4 (eL (via x)) = nI (ν.L (eL (via x)) 1) := hIK.2.2.2.1 _ q2 1 (by decide)
      rw [mX6_sendMore_128, if_neg h8, if_neg (fun e => hxa ((nI_eq (by omega) (by omega)).mp e)), ck_n hx8 (by decide), nI_clamp (by omega), hv x hx hxa, hvo.1, nI_clamp (by omega)]
      by_cases h16 : via x < 16
      · have eLx : eL (via x) = via x := if_pos h16
        have eP : ePv ν (via x) = ν.L (via x) 0 := if_pos h16
        have eS : eSg m (via x) = m := if_pos h16
        have ed : zI (g (eL (via x))) + zI m = zI d := by rw [zI_add, hd', eS]
        rw [if_pos (hvo.2.mpr h16), ob_some, ck_n (show eL (via x) < 16 by omega) (by decide), if_pos rfl, ob_some, nm_n, hg _ q2, ed, if_pos rfl, nm_n, ← hK, e3, nI_1, eLx, ← eP, e']
      · have eLx : eL (via x) = via x - 16 := if_neg h16
        have eP : ePv ν (via x) = ν.L (via x - 16) 1 := if_neg h16
        have eS : eSg m (via x) = -m := if_neg h16
        have ed : zI (g (eL (via x))) + -(zI m) = zI d := by rw [← Int32.sub_eq_add_neg, zI_sub, hd', eS]; rfl
        rw [if_neg (fun e => h16 (hvo.2.mp e)), ob_some, ck_n (show eL (via x) < 16 by omega) (by decide), if_neg (show ¬ (1 : Int32) = 0 by decide), ob_some, nm_n, hg _ q2, ed, if_neg (show ¬ (1 : Int32) = 0 by decide), nm_n, ← hK, e4, nI_1, eLx, ← eP, e']
theorem c_mf30 (hn : WfN ν) (hw : WfW ν σ) (hN : 100 ≤ N) (ha : a < 8) (hz : z < 8) (haz : a ≠ z) : ∀ (q j fu : Nat) (v : Int) (f : Nat → Int) (I : gI), j + q = 1584 → q < fu → (j : Int) ≤ v → Vf ν (cpF ν σ p) a z f v → NetC ν I → FlC ν σ p f I → ∃ v' I', mX6_mostFlow_30 N σ.up (nI a) (nI z) fu (zI v) (nI j) I = some (zI v', I') ∧ Mxf ν (cpF ν σ p) a z v' ∧ Fr [34, 35] I I' := by
  have hc99 : ∀ l, l < ν.ln → cpF ν σ p l ≤ 99 := fun l hl => (cpF_bd hn hw hl).2
  intro q
  induction q with
  | zero =>
    intro j fu v f I hj hfu hv hV hI hfl
    obtain ⟨n, rfl⟩ : ∃ n, fu = n + 1 := ⟨fu - 1, by omega⟩
    refine ⟨v, I, by rw [mX6_mostFlow_30, if_pos (show (1584 : Int32) ≤ nI j from nI_le (a := 1584) (by omega) (by omega))], ⟨⟨f, hV⟩, fun f' v' h' => ?_⟩, Fr.rf⟩
    have := Vf_bd hn hc99 h'
    omega
  | succ q ih =>
    intro j fu v f I hj hfu hv hV hI hfl
    obtain ⟨n, rfl⟩ : ∃ n, fu = n + 1 := ⟨fu - 1, by omega⟩
    have hnj : ¬ (1584 : Int32) ≤ nI j := nI_ge (b := 1584) (by omega) (by omega)
    obtain ⟨r, I6, R, via, rk, e6, f6, hF, hvi, hres⟩ := c_find (N := N) (z := z) hn hI hfl hw hN ha hz hV.1
    have hI6 := hI.fr f6 (by simp)
    have hfl6 : FlC ν σ p f I6 := ⟨fun l hl => by rw [f6 31 (by simp)]; exact hfl.1 l hl, fun l hl => by rw [f6 34 (by simp)]; exact hfl.2 l hl⟩
    rcases hres with ⟨rfl, hRz, hcl⟩ | ⟨rfl, hRz⟩
    · refine ⟨v, I6, ?_, cut_max hn ha hV (S := fun x => R.testBit x) hF.2.1 hRz (fun l hl => ?_), f6.mono (by simp)⟩
      · rw [mX6_mostFlow_30, if_neg hnj, e6, ob_some]
        dsimp only
        rw [if_pos rfl]
      · have h1 := hcl l hl
        have h2 := hV.1 l hl
        refine ⟨fun ha hb => ?_, fun ha hb => ?_⟩
        · have := h1.1 ha hb; omega
        · have := h1.2 ha hb; omega
    · have hrk : rk z ≤ 7 := by
        have h1 := hF.2.2.1 z hRz
        have h2 := pcn_8b hF.1
        omega
      obtain ⟨m, em, hm1, hm2, hon⟩ := c_s9 (k2 := nI z) hn hI6 hfl6 hw hV.1 ha hF hvi 7 z 0 N 1000000 hrk hRz (by omega) (by omega) (by omega) (by omega)
      obtain ⟨g, I10, e10, f10, hg, hGa⟩ := c_s128 (z := z) hn hV.1 ha hF hm1 7 z 0 N f I6 hrk hRz (by omega) (by omega) hI6 hvi hfl6.2 hon (GI_0 hV.1)
      have hV' := GI_fin ha haz hV hGa
      obtain ⟨v', I', e', hM, f'⟩ := ih (j + 1) n (v + m) g I10 (by omega) (by omega) (by omega) hV' (hI6.fr f10 (by simp)) ⟨fun l hl => by rw [f10 31 (by simp)]; exact hfl6.1 l hl, hg⟩
      refine ⟨v', I', ?_, hM, ((f6.mono (by simp)).tr (f10.mono (by simp))).tr f'⟩
      rw [mX6_mostFlow_30, if_neg hnj, e6, ob_some]
      dsimp only
      rw [if_neg (show ¬ (1 : Int32) = 0 by decide)]
      unfold mX6_sendMore
      rw [show mX6_sendMore_9 (nI a) (nI z) I6 N 1000000 (nI z) 0 = some (zI m) from em, ob_some, show mX6_sendMore_128 (nI a) (zI m) N (nI z) 0 I6 = some I10 from e10, ob_some, ob_some]
      dsimp only
      rw [zI_add, nI_1, e']
theorem c_flow (hn : WfN ν) (hI : NetC ν I) (hw : WfW ν σ) (hN : 2000 ≤ N) (ha : a < 8) (hz : z < 8) (haz : a ≠ z) (h31 : ∀ l, l < ν.ln → I 31 l = zI (pl ν σ 99 l p)) : ∃ v I', mX6_mostFlow N σ.up (nI a) (nI z) I = some (zI v, I') ∧ Mxf ν (cpF ν σ p) a z v ∧ Fr [34, 35] I I' := by
  have hln := hn.2.2.1
  obtain ⟨I3, hP, e⟩ := loopP (F := fun n s i => mX6_mostFlow_3 σ.up (nI a) (nI z) n i s) (b := 16) (out := id)
    (P := fun k s => Fr [34] I s ∧ ∀ l, l < k → s 34 l = 0)
    (fun n s hP => by
      show mX6_mostFlow_3 σ.up (nI a) (nI z) (n + 1) (nI 16) s = some s
      rw [mX6_mostFlow_3, if_pos (by decide)])
    (fun n k s hk hP => by
      refine ⟨upd2 s 34 k 0, ?_, hP.1.u2 (by simp), fun l hl => ?_⟩
      · show mX6_mostFlow_3 σ.up (nI a) (nI z) (n + 1) (nI k) s = _
        rw [mX6_mostFlow_3, if_neg (show ¬ (16 : Int32) ≤ nI k from nI_ge (b := 16) hk (by omega)), ck_n hk (by decide), nI_clamp (by omega), nI_1]
      · by_cases el : l = k
        · rw [el, u2_at]
        · rw [u2_ne (fun h => el h.2)]; exact hP.2 l (by omega))
    N 0 I (Nat.zero_le _) (by omega) ⟨Fr.rf, fun l hl => by omega⟩
  have hV0 : Vf ν (cpF ν σ p) a z (fun _ => 0) 0 := by
    have h0 : ∀ x, ntf ν (fun _ => 0) x = 0 := fun x => sm_n0 (fun l _ => by
      show (if ν.L l 0 = x then (0 : Int) else 0) - (if ν.L l 1 = x then (0 : Int) else 0) = 0
      split <;> split <;> rfl)
    exact ⟨fun l hl => ⟨Int.le_refl _, (cpF_bd hn hw hl).1⟩, fun x _ _ _ => h0 x, h0 a⟩
  obtain ⟨v, I', e', hM, f'⟩ := c_mf30 (N := N) (z := z) hn hw (by omega) ha hz haz 1584 0 N 0 (fun _ => 0) I3 (by omega) (by omega) (by omega) hV0 (hI.fr hP.1 (by simp)) ⟨fun l hl => by rw [hP.1 31 (by simp)]; exact h31 l hl, fun l hl => by rw [hP.2 l (by omega)]; rfl⟩
  refine ⟨v, I', ?_, hM, (hP.1.mono (by simp)).tr f'⟩
  unfold mX6_mostFlow
  rw [show mX6_mostFlow_3 σ.up (nI a) (nI z) N 0 I = some I3 from e, ob_some, show mX6_mostFlow_30 N σ.up (nI a) (nI z) N 0 0 I3 = some (zI v, I') from e', ob_some]
end CFlow
