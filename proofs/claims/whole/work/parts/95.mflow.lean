/-! the reference's most flow -/
theorem mq {R x : Nat} (hx : x < 32) : ((nI R >>> (nI x &&& 31)) &&& 1) = if R.testBit x = true then 1 else 0 := by rw [mbv hx, b_nI hx]
theorem i_01 : ((0 : Int32) = 1) = False := eq_false (by decide)
theorem nm_x {α β : Type} (e : α) (f : α → β) : nm e f = f e := id rfl
theorem ob_x {α β : Type} (a : α) (f : α → Option β) : Option.bind (some a) f = f a := id rfl
theorem r16 : ∀ e, e < 32 → nI e - nI e / 16 * 16 = nI (eL e) := by decide +kernel
section MFlow
variable {ν : Nt} {σ : St} {N p a z : Nat} {I : gI} {c f : Nat → Int} {v : Int}
def FlM (ν : Nt) (c f : Nat → Int) (I : gI) : Prop := ∀ l, l < ν.ln → I 329 l = zI (c l - f l) ∧ I 330 l = zI (f l)
def ViaM (R a : Nat) (via : Nat → Nat) (I : gI) : Prop := ∀ x, R.testBit x = true → x ≠ a → I 331 x = nI (via x)
set_option maxRecDepth 100000 in
set_option maxHeartbeats 2000000 in
theorem ag_b (hn : WfN ν) {K : gI} {k n R : Nat} {k2 r w : Int32} (hk : k < ν.ln) (hIs : NetM ν K) (e1 : w = nI R) (e31 : K 329 k = zI (c k - f k)) (e34 : K 330 k = zI (f k)) (hfk : 0 ≤ f k ∧ f k ≤ c k) (hck : c k ≤ 99) : mX11_isAugmented_46 k2 (n + 1) r w (nI k) K = (if R.testBit (ν.L k 0) = true then (if R.testBit (ν.L k 1) = true then mX11_isAugmented_46 k2 n r (nI R) (nI (k + 1)) K else (if f k < c k then mX11_isAugmented_46 k2 n 1 (nI (R ||| 2 ^ ν.L k 1)) (nI (k + 1)) (upd2 K 331 (ν.L k 1) (nI k)) else mX11_isAugmented_46 k2 n r (nI R) (nI (k + 1)) K)) else (if R.testBit (ν.L k 1) = true then (if 0 < f k then mX11_isAugmented_46 k2 n 1 (nI (R ||| 2 ^ ν.L k 0)) (nI (k + 1)) (upd2 K 331 (ν.L k 0) (nI (16 + k))) else mX11_isAugmented_46 k2 n r (nI R) (nI (k + 1)) K) else mX11_isAugmented_46 k2 n r (nI R) (nI (k + 1)) K)) := by
  have hln := hn.2.2.1
  have hnn := hn.2.1
  have hL := hn.2.2.2.2.1 k hk
  have e3 : K 313 (5 * k) = nI (ν.L k 0) := hIs.2.2.2.1 k hk 0 (by decide)
  have e4 : K 313 (5 * k + 1) = nI (ν.L k 1) := hIs.2.2.2.1 k hk 1 (by decide)
  have i51 : (5 : Int32) * nI k + 1 = nI (5 * k + 1) := n5 k 1
  have i16 : (16 : Int32) + nI k = nI (16 + k) := by rw [show (16 : Int32) = nI 16 from rfl, nI_add]
  have ckA : ∀ (y : Option (Int32 × Int32 × gI)), ck (nI (ν.L k 0)) 8 y = y := fun y => ck_n (by omega) (by decide)
  have ckB : ∀ (y : Option (Int32 × Int32 × gI)), ck (nI (ν.L k 1)) 8 y = y := fun y => ck_n (by omega) (by decide)
  have clA : (nI (ν.L k 0)).toNatClampNeg = ν.L k 0 := nI_clamp (by omega)
  have clB : (nI (ν.L k 1)).toNatClampNeg = ν.L k 1 := nI_clamp (by omega)
  rw [mX11_isAugmented_46, hIs.2.1, if_neg (nI_ge hk (by omega)), i51, n5', ck_n (by omega) (by decide), ck_n (by omega) (by decide), ck_n (by omega) (by decide), nI_clamp (by omega), nI_clamp (by omega), nI_clamp (by omega), e3, e4, e31, e34, e1, mq (by omega), mq (by omega), sh1_n _ (by omega), sh1_n _ (by omega), i16, nI_1]
  have e0 : (zI (f k) ≤ (0 : Int32)) = ¬ 0 < f k := by
    rw [show (0 : Int32) = zI 0 from rfl]
    exact propext ((zI_le ⟨by omega, by omega⟩ ⟨by omega, by omega⟩).trans ⟨fun h => by omega, fun h => by omega⟩)
  have e0' : (zI (c k - f k) ≤ (0 : Int32)) = ¬ f k < c k := by
    rw [show (0 : Int32) = zI 0 from rfl]
    exact propext ((zI_le ⟨by omega, by omega⟩ ⟨by omega, by omega⟩).trans ⟨fun h => by omega, fun h => by omega⟩)
  by_cases h1 : R.testBit (ν.L k 0) = true <;> by_cases h2 : R.testBit (ν.L k 1) = true <;> by_cases h3 : f k < c k <;> by_cases h4 : 0 < f k <;> simp only [h1, h2, h3, h4, e0, e0', i_10, i_01, ckA, ckB, clA, clB, nm_x, nx_or, ob_x, if_true, if_false, not_true_eq_false, not_false_eq_true, Bool.false_eq_true, eq_self]
set_option maxRecDepth 100000 in
set_option maxHeartbeats 2000000 in
theorem m_ag46 (hn : WfN ν) (hI : NetM ν I) (hfl : FlM ν c f I) (hN : 100 ≤ N) (hf : ∀ l, l < ν.ln → 0 ≤ f l ∧ f l ≤ c l) (hc : ∀ l, l < ν.ln → c l ≤ 99) {R0 : Nat} {via0 rk0 : Nat → Nat} (hF : FO ν c f a R0 via0 rk0) (hv : ViaM R0 a via0 I) {k2 : Int32} : ∃ r R via rk I', mX11_isAugmented_46 k2 N 0 (nI R0) 0 I = some (r, nI R, I') ∧ Fr [331] I I' ∧ FO ν c f a R via rk ∧ ViaM R a via I' ∧ ((r = 0 ∧ R = R0 ∧ ∀ l, l < ν.ln → clF ν c f R l) ∨ (r = 1 ∧ pcn R0 < pcn R)) := by
  have hln := hn.2.2.1
  have hnn := hn.2.1
  obtain ⟨s', hP, e⟩ := loopP (F := fun n (s : Int32 × Int32 × gI) i => mX11_isAugmented_46 k2 n s.1 s.2.1 i s.2.2) (b := ν.ln) (out := fun s => (s.1, s.2.1, s.2.2))
    (P := fun k s => ∃ R via rk, s.2.1 = nI R ∧ Fr [331] I s.2.2 ∧ FO ν c f a R via rk ∧ ViaM R a via s.2.2 ∧ ((s.1 = 0 ∧ R = R0 ∧ ∀ l, l < k → clF ν c f R l) ∨ (s.1 = 1 ∧ pcn R0 < pcn R)))
    (fun n s hP => by
      obtain ⟨R, via, rk, e1, fr, -⟩ := hP
      show mX11_isAugmented_46 k2 (n + 1) s.1 s.2.1 (nI ν.ln) s.2.2 = some (s.1, s.2.1, s.2.2)
      rw [mX11_isAugmented_46, (hI.fr fr (by simp) (by simp) (by simp)).2.1, if_pos (nI_le (Nat.le_refl _) (by omega))])
    (fun n k s hk hP => by
      obtain ⟨R, via, rk, e1, fr, hFR, hvR, hgr⟩ := hP
      have hL := hn.2.2.2.2.1 k hk
      have hIs := hI.fr fr (by simp) (by simp) (by simp)
      have e3 : s.2.2 313 (5 * k) = nI (ν.L k 0) := hIs.2.2.2.1 k hk 0 (by decide)
      have e4 : s.2.2 313 (5 * k + 1) = nI (ν.L k 1) := hIs.2.2.2.1 k hk 1 (by decide)
      have e31 : s.2.2 329 k = zI (c k - f k) := by rw [fr 329 (by simp)]; exact (hfl k hk).1
      have e34 : s.2.2 330 k = zI (f k) := by rw [fr 330 (by simp)]; exact (hfl k hk).2
      have hfk := hf k hk
      have hck := hc k hk
      have i51 : (5 : Int32) * nI k + 1 = nI (5 * k + 1) := n5 k 1
      have i16 : (16 : Int32) + nI k = nI (16 + k) := by rw [show (16 : Int32) = nI 16 from rfl, nI_add]
      have ckA : ∀ (y : Option (Int32 × Int32 × gI)), ck (nI (ν.L k 0)) 8 y = y := fun y => ck_n (by omega) (by decide)
      have ckB : ∀ (y : Option (Int32 × Int32 × gI)), ck (nI (ν.L k 1)) 8 y = y := fun y => ck_n (by omega) (by decide)
      have clA : (nI (ν.L k 0)).toNatClampNeg = ν.L k 0 := nI_clamp (by omega)
      have clB : (nI (ν.L k 1)).toNatClampNeg = ν.L k 1 := nI_clamp (by omega)
      have base := ag_b (n := n) (k2 := k2) (r := s.1) hn hk hIs e1 e31 e34 hfk hck
      have done : ∀ x e : Nat, x < 8 → R.testBit x = false → e < 32 → eL e < ν.ln → eNd ν e = x → 0 < eRs c f e → R.testBit (ePv ν e) = true → mX11_isAugmented_46 k2 (n + 1) s.1 s.2.1 (nI k) s.2.2 = mX11_isAugmented_46 k2 n 1 (nI (R ||| 2 ^ x)) (nI (k + 1)) (upd2 s.2.2 331 x (nI e)) → ∃ s9 : Int32 × Int32 × gI, mX11_isAugmented_46 k2 (n + 1) s.1 s.2.1 (nI k) s.2.2 = mX11_isAugmented_46 k2 n s9.1 s9.2.1 (nI (k + 1)) s9.2.2 ∧ ∃ R via rk, s9.2.1 = nI R ∧ Fr [331] I s9.2.2 ∧ FO ν c f a R via rk ∧ ViaM R a via s9.2.2 ∧ ((s9.1 = 0 ∧ R = R0 ∧ ∀ l, l < k + 1 → clF ν c f R l) ∨ (s9.1 = 1 ∧ pcn R0 < pcn R)) := by
        intro x e hx hxR he hl hnd hrs hpv hd
        obtain ⟨hF', hp'⟩ := FO_add hFR hx hxR he hl hnd hrs hpv
        refine ⟨(1, nI (R ||| 2 ^ x), upd2 s.2.2 331 x (nI e)), hd, R ||| 2 ^ x, _, _, rfl, fr.u2 (by simp), hF', fun y hy hya => ?_, Or.inr ⟨rfl, ?_⟩⟩
        · show upd2 s.2.2 331 x (nI e) 331 y = nI (if y = x then e else via y)
          by_cases ey : y = x
          · rw [ey, u2_at, if_pos rfl]
          · rw [u2_ne (fun h => ey h.2), if_neg ey]
            refine hvR y ?_ hya
            rw [Nat.testBit_or, Nat.testBit_two_pow] at hy
            have ey' : ¬ x = y := fun h => ey h.symm
            simpa [ey'] using hy
        · rcases hgr with ⟨-, h1, -⟩ | ⟨-, h1⟩
          · rw [← h1]; omega
          · omega
      have skip : clF ν c f R k → mX11_isAugmented_46 k2 (n + 1) s.1 s.2.1 (nI k) s.2.2 = mX11_isAugmented_46 k2 n s.1 (nI R) (nI (k + 1)) s.2.2 → ∃ s9 : Int32 × Int32 × gI, mX11_isAugmented_46 k2 (n + 1) s.1 s.2.1 (nI k) s.2.2 = mX11_isAugmented_46 k2 n s9.1 s9.2.1 (nI (k + 1)) s9.2.2 ∧ ∃ R via rk, s9.2.1 = nI R ∧ Fr [331] I s9.2.2 ∧ FO ν c f a R via rk ∧ ViaM R a via s9.2.2 ∧ ((s9.1 = 0 ∧ R = R0 ∧ ∀ l, l < k + 1 → clF ν c f R l) ∨ (s9.1 = 1 ∧ pcn R0 < pcn R)) := by
        intro hcl hd
        refine ⟨(s.1, nI R, s.2.2), hd, R, via, rk, rfl, fr, hFR, hvR, ?_⟩
        rcases hgr with ⟨h0, h1, h2⟩ | h1
        · refine Or.inl ⟨h0, h1, fun l hl => ?_⟩
          by_cases el : l = k
          · rw [el]; exact hcl
          · exact h2 l (by omega)
        · exact Or.inr h1
      show ∃ s9 : Int32 × Int32 × gI, mX11_isAugmented_46 k2 (n + 1) s.1 s.2.1 (nI k) s.2.2 = mX11_isAugmented_46 k2 n s9.1 s9.2.1 (nI (k + 1)) s9.2.2 ∧ _
      cases h1 : R.testBit (ν.L k 0) with
      | true =>
        rw [if_pos h1] at base
        cases h2 : R.testBit (ν.L k 1) with
        | true =>
          rw [if_pos h2] at base
          exact skip ⟨fun _ h => Bool.noConfusion (h2.symm.trans h), fun h _ => Bool.noConfusion (h1.symm.trans h)⟩ base
        | false =>
          rw [if_neg (by rw [h2]; decide)] at base
          by_cases h3 : f k < c k
          · rw [if_pos h3] at base
            have e16 : k < 16 := by omega
            exact done (ν.L k 1) k (by omega) h2 (by omega) (by unfold eL; rw [if_pos e16]; exact hk) (by unfold eNd; rw [if_pos e16]) (by unfold eRs; rw [if_pos e16]; omega) (by unfold ePv; rw [if_pos e16]; exact h1) base
          · rw [if_neg h3] at base
            exact skip ⟨fun _ _ => h3, fun h _ => Bool.noConfusion (h1.symm.trans h)⟩ base
      | false =>
        rw [if_neg (by rw [h1]; decide)] at base
        cases h2 : R.testBit (ν.L k 1) with
        | true =>
          rw [if_pos h2] at base
          by_cases h3 : 0 < f k
          · rw [if_pos h3] at base
            have e16 : ¬ 16 + k < 16 := by omega
            have ek : 16 + k - 16 = k := by omega
            exact done (ν.L k 0) (16 + k) (by omega) h1 (by omega) (by unfold eL; rw [if_neg e16, ek]; exact hk) (by unfold eNd; rw [if_neg e16, ek]) (by unfold eRs; rw [if_neg e16, ek]; exact h3) (by unfold ePv; rw [if_neg e16, ek]; exact h2) base
          · rw [if_neg h3] at base
            exact skip ⟨fun h _ => Bool.noConfusion (h1.symm.trans h), fun _ _ => h3⟩ base
        | false =>
          rw [if_neg (by rw [h2]; decide)] at base
          exact skip ⟨fun h _ => Bool.noConfusion (h1.symm.trans h), fun _ h => Bool.noConfusion (h2.symm.trans h)⟩ base)
    N 0 (0, nI R0, I) (Nat.zero_le _) (by omega) ⟨R0, via0, rk0, rfl, Fr.rf, hF, hv, Or.inl ⟨rfl, rfl, fun l hl => by omega⟩⟩
  obtain ⟨R, via, rk, e1, h⟩ := hP
  exact ⟨s'.1, R, via, rk, s'.2.2, by rw [show mX11_isAugmented_46 k2 N 0 (nI R0) 0 I = _ from e, e1], h⟩
theorem m_ag28 (hn : WfN ν) (hN : 100 ≤ N) (hz : z < 8) (hf : ∀ l, l < ν.ln → 0 ≤ f l ∧ f l ≤ c l) (hc : ∀ l, l < ν.ln → c l ≤ 99) : ∀ (m fu R : Nat) (via rk : Nat → Nat) (I : gI) (r : Int32), 9 ≤ pcn R + m → m < fu → NetM ν I → FlM ν c f I → FO ν c f a R via rk → ViaM R a via I → ((r = 0 ∧ ∀ l, l < ν.ln → clF ν c f R l) ∨ r = 1) → ∃ R' via' rk' I', mX11_isAugmented_28 N (nI z) fu r (nI R) I = some (nI R', I') ∧ Fr [331] I I' ∧ FO ν c f a R' via' rk' ∧ ViaM R' a via' I' ∧ (R'.testBit z = true ∨ ∀ l, l < ν.ln → clF ν c f R' l) := by
  intro m
  induction m with
  | zero =>
    intro fu R via rk I r hm hfu hI hfl hF hv hr
    have := pcn_8b hF.1
    omega
  | succ m ih =>
    intro fu R via rk I r hm hfu hI hfl hF hv hr
    obtain ⟨n, rfl⟩ : ∃ n, fu = n + 1 := ⟨fu - 1, by omega⟩
    rcases hr with ⟨rfl, hcl⟩ | rfl
    · exact ⟨R, via, rk, I, by rw [mX11_isAugmented_28, if_pos rfl], Fr.rf, hF, hv, Or.inr hcl⟩
    · by_cases hRz : R.testBit z = true
      · exact ⟨R, via, rk, I, by rw [mX11_isAugmented_28, if_neg (show ¬ (1 : Int32) = 0 by decide), if_neg (fun e => by rw [mb0 (by omega), b_nI (by omega), hRz] at e; cases e)], Fr.rf, hF, hv, Or.inl hRz⟩
      · have hRz' : R.testBit z = false := by simpa using hRz
        obtain ⟨r1, R1, via1, rk1, I1, e1, f1, hF1, hv1, hg1⟩ := m_ag46 (N := N) (k2 := nI z) hn hI hfl hN hf hc hF hv
        have hI1 := hI.fr f1 (by simp) (by simp) (by simp)
        have hfl1 : FlM ν c f I1 := fun l hl => by rw [f1 329 (by simp), f1 330 (by simp)]; exact hfl l hl
        have step : mX11_isAugmented_28 N (nI z) (n + 1) 1 (nI R) I = mX11_isAugmented_28 N (nI z) n r1 (nI R1) I1 := by
          rw [mX11_isAugmented_28, if_neg (show ¬ (1 : Int32) = 0 by decide), if_pos ((mb0 (by omega) _).mpr (by rw [b_nI (by omega)]; exact hRz')), e1, ob_some]
        rcases hg1 with ⟨rfl, rfl, hcl⟩ | ⟨rfl, hgr⟩
        · obtain ⟨n', rfl⟩ : ∃ n', n = n' + 1 := ⟨n - 1, by have := pcn_8b hF.1; omega⟩
          exact ⟨R1, via1, rk1, I1, by rw [step, mX11_isAugmented_28, if_pos rfl], f1, hF1, hv1, Or.inr hcl⟩
        · obtain ⟨R', via', rk', I', e', f', h'⟩ := ih n R1 via1 rk1 I1 1 (by omega) (by omega) hI1 hfl1 hF1 hv1 (Or.inr rfl)
          exact ⟨R', via', rk', I', by rw [step, e'], f1.tr f', h'⟩
theorem m_aug (hn : WfN ν) (hI : NetM ν I) (hfl : FlM ν c f I) (hN : 100 ≤ N) (ha : a < 8) (hz : z < 8) (hf : ∀ l, l < ν.ln → 0 ≤ f l ∧ f l ≤ c l) (hc : ∀ l, l < ν.ln → c l ≤ 99) : ∃ r I' R via rk, mX11_isAugmented N (nI a) (nI z) I = some (r, I') ∧ Fr [331] I I' ∧ FO ν c f a R via rk ∧ ViaM R a via I' ∧ ((r = 0 ∧ R.testBit z = false ∧ ∀ l, l < ν.ln → clF ν c f R l) ∨ (r = 1 ∧ R.testBit z = true)) := by
  obtain ⟨I3, hP, e3⟩ := loopP (F := fun n s i => mX11_isAugmented_2 (nI a) (nI z) n i s) (b := 8) (out := id)
    (P := fun _ s => Fr [331] I s)
    (fun n s hP => by
      show mX11_isAugmented_2 (nI a) (nI z) (n + 1) (nI 8) s = some s
      rw [mX11_isAugmented_2, if_pos (by decide)])
    (fun n k s hk hP => by
      refine ⟨upd2 s 331 k (-1), ?_, hP.u2 (by simp)⟩
      show mX11_isAugmented_2 (nI a) (nI z) (n + 1) (nI k) s = _
      rw [mX11_isAugmented_2, if_neg (show ¬ (8 : Int32) ≤ nI k from nI_ge (b := 8) hk (by omega)), ck_n hk (by decide), nI_clamp (by omega), nI_1])
    N 0 I (Nat.zero_le _) (by omega) Fr.rf
  have hI3 := hI.fr hP (by simp) (by simp) (by simp)
  have hfl3 : FlM ν c f I3 := fun l hl => by rw [hP 329 (by simp), hP 330 (by simp)]; exact hfl l hl
  have hv0 : ViaM (2 ^ a) a (fun _ => 0) I3 := fun x hx hne => by
    rw [Nat.testBit_two_pow] at hx
    exact absurd (of_decide_eq_true hx).symm hne
  obtain ⟨R, via, rk, I', e, fr, hF, hv, h⟩ := m_ag28 (N := N) (z := z) hn hN hz hf hc 8 N (2 ^ a) (fun _ => 0) (fun _ => 0) I3 1 (by rw [pcn_pow a (by omega)]; omega) (by omega) hI3 hfl3 (FO_0 ha) hv0 (Or.inr rfl)
  have hd : mX11_isAugmented N (nI a) (nI z) I = if R.testBit z = true then some (1, I') else some (0, I') := by
    unfold mX11_isAugmented
    rw [show mX11_isAugmented_2 (nI a) (nI z) N 0 I = some I3 from e3, ob_some, sh1_n a (by omega), e, ob_some]
    dsimp only
    by_cases hz' : R.testBit z = true
    · rw [if_pos ((mb1 (by omega) _).mpr (by rw [b_nI (by omega)]; exact hz')), if_pos hz']
    · rw [if_neg (fun e => hz' (by rw [mb1 (by omega), b_nI (by omega)] at e; exact e)), if_neg hz']
  by_cases hz' : R.testBit z = true
  · exact ⟨1, I', R, via, rk, by rw [hd, if_pos hz'], hP.tr fr, hF, hv, Or.inr ⟨rfl, hz'⟩⟩
  · refine ⟨0, I', R, via, rk, by rw [hd, if_neg hz'], hP.tr fr, hF, hv, Or.inl ⟨rfl, by simpa using hz', ?_⟩⟩
    rcases h with h | h
    · exact absurd h hz'
    · exact h
theorem m_f130 (hn : WfN ν) (hf : ∀ l, l < ν.ln → 0 ≤ f l ∧ f l ≤ c l) (ha : a < 8) {R : Nat} {via rk : Nat → Nat} (hF : FO ν c f a R via rk) {k2 k4 : Int32} : ∀ (k x fu : Nat) (g : Nat → Int) (I : gI), rk x ≤ k → R.testBit x = true → k < fu → NetM ν I → ViaM R a via I → FlM ν c g I → GI ν c f a z R via rk 1 g x → ∃ g' I', mX11_flow_130 (nI a) k2 k4 fu (nI x) I = some I' ∧ Fr [329, 330] I I' ∧ FlM ν c g' I' ∧ GI ν c f a z R via rk 1 g' a := by
  have hln := hn.2.2.1
  intro k
  induction k with
  | zero =>
    intro x fu g I hr hx hfu hI hv hg hG
    obtain ⟨n, rfl⟩ : ∃ n, fu = n + 1 := ⟨fu - 1, by omega⟩
    have hxa : x = a := by
      apply Classical.byContradiction
      intro hne
      have := (hF.2.2.2 x hx hne).2.2.2.2.2
      omega
    refine ⟨g, I, ?_, Fr.rf, hg, by subst hxa; exact hG⟩
    rw [mX11_flow_130, if_pos (by rw [hxa])]
  | succ k ih =>
    intro x fu g I hr hx hfu hI hv hg hG
    obtain ⟨n, rfl⟩ : ∃ n, fu = n + 1 := ⟨fu - 1, by omega⟩
    have hx8 := FO_8 hF hx
    by_cases hxa : x = a
    · refine ⟨g, I, ?_, Fr.rf, hg, by subst hxa; exact hG⟩
      rw [mX11_flow_130, if_pos (by rw [hxa])]
    · obtain ⟨q1, q2, q3, q4, q5, q6⟩ := hF.2.2.2 x hx hxa
      have hpv8 := FO_8 hF q5
      obtain ⟨-, hG'⟩ := GI_step hF (by omega) hG hx hxa (by omega) hf
      obtain ⟨K, hK⟩ : ∃ K, K = upd2 (upd2 I 329 (eL (via x)) (zI (c (eL (via x)) - (g (eL (via x)) + eSg 1 (via x))))) 330 (eL (via x)) (zI (g (eL (via x)) + eSg 1 (via x))) := ⟨_, rfl⟩
      have fK : Fr [329, 330] I K := by rw [hK]; exact (Fr.rf.u2 (by simp)).u2 (by simp)
      have hIK := hI.fr fK (by simp) (by simp) (by simp)
      obtain ⟨g', I', e', f', hg', hGa⟩ := ih (ePv ν (via x)) n (upf g (eL (via x)) (eSg 1 (via x))) K (by omega) q5 (by omega) hIK (fun y hy hya => by rw [fK 331 (by simp)]; exact hv y hy hya) (fun l hl => by
        rw [hK]
        unfold upf
        by_cases el : l = eL (via x)
        · rw [el, u2_at, if_pos rfl, u2_c (show (329 : Nat) ≠ 330 by decide), u2_at]
          exact ⟨rfl, rfl⟩
        · rw [if_neg el]
          refine ⟨?_, ?_⟩
          · rw [u2_c (show (329 : Nat) ≠ 330 by decide), u2_ne (fun h => el h.2)]; exact (hg l hl).1
          · rw [u2_ne (fun h => el h.2), u2_c (show (330 : Nat) ≠ 329 by decide)]; exact (hg l hl).2) hG'
      refine ⟨g', I', ?_, fK.tr f', hg', hGa⟩
      obtain ⟨g1, g2⟩ := hg _ q2
      have e3 : K 313 (5 * eL (via x)) = nI (ν.L (eL (via x)) 0) := hIK.2.2.2.1 _ q2 0 (by decide)
      have e4 : K 313 (5 * eL (via x) + 1) = nI (ν.L (eL (via x)) 1) := hIK.2.2.2.1 _ q2 1 (by decide)
      have i51 : (5 : Int32) * nI (eL (via x)) + 1 = nI (5 * eL (via x) + 1) := n5 _ 1
      rw [mX11_flow_130, if_neg (fun e => hxa ((nI_eq (by omega) (by omega)).mp e)), ck_n hx8 (by decide), nI_clamp (by omega), hv x hx hxa, nm_n, r16 _ q1, nI_clamp (by omega), i51, n5']
      by_cases h16 : via x < 16
      · have eLx : eL (via x) = via x := if_pos h16
        have eP : ePv ν (via x) = ν.L (via x) 0 := if_pos h16
        have eS : eSg 1 (via x) = 1 := if_pos h16
        have ea : zI (c (eL (via x)) - g (eL (via x))) + -1 = zI (c (eL (via x)) - (g (eL (via x)) + eSg 1 (via x))) := by
          rw [eS, show (-1 : Int32) = zI (-1) from rfl, zI_add]
          congr 1
          omega
        have eb : zI (g (eL (via x))) + 1 = zI (g (eL (via x)) + eSg 1 (via x)) := by rw [eS, show (1 : Int32) = zI 1 from rfl, zI_add]
        rw [if_neg (show ¬ (16 : Int32) ≤ nI (via x) from nI_ge (b := 16) h16 (by omega)), ob_some, ck_n (show eL (via x) < 16 by omega) (by decide), if_neg (show ¬ (1 : Int32) = 0 by decide), ob_some, nm_n, if_neg (show ¬ (1 : Int32) = 0 by decide), ob_some, nm_n, if_neg (show ¬ (1 : Int32) = 0 by decide), g1, u2_c (show (330 : Nat) ≠ 329 by decide), g2, ea, eb, ← hK, ck_n (by omega) (by decide), nI_clamp (by omega), e3, eLx, ← eP, e']
      · have eLx : eL (via x) = via x - 16 := if_neg h16
        have eP : ePv ν (via x) = ν.L (via x - 16) 1 := if_neg h16
        have eS : eSg 1 (via x) = -1 := if_neg h16
        have ea : zI (c (eL (via x)) - g (eL (via x))) + 1 = zI (c (eL (via x)) - (g (eL (via x)) + eSg 1 (via x))) := by
          rw [eS, show (1 : Int32) = zI 1 from rfl, zI_add]
          congr 1
          omega
        have eb : zI (g (eL (via x))) + -1 = zI (g (eL (via x)) + eSg 1 (via x)) := by rw [eS, show (-1 : Int32) = zI (-1) from rfl, zI_add]
        rw [if_pos (show (16 : Int32) ≤ nI (via x) from nI_le (a := 16) (by omega) (by omega)), ob_some, ck_n (show eL (via x) < 16 by omega) (by decide), if_pos (show (0 : Int32) = 0 from rfl), ob_some, nm_n, if_pos (show (0 : Int32) = 0 from rfl), ob_some, nm_n, if_pos (show (0 : Int32) = 0 from rfl), g1, u2_c (show (330 : Nat) ≠ 329 by decide), g2, ea, eb, ← hK, ck_n (by omega) (by decide), nI_clamp (by omega), e4, eLx, ← eP, e']
theorem m_f118 (hn : WfN ν) (hN : 100 ≤ N) (ha : a < 8) (hz : z < 8) (haz : a ≠ z) (hc : ∀ l, l < ν.ln → c l ≤ 99) : ∀ (q fu : Nat) (v : Int) (f : Nat → Int) (I : gI), 1585 ≤ v + q → q < fu → Vf ν c a z f v → NetM ν I → FlM ν c f I → ∃ v' I', mX11_flow_118 N (nI a) (nI z) fu (zI v) I = some (zI v', I') ∧ Mxf ν c a z v' ∧ Fr [329, 330, 331] I I' := by
  intro q
  induction q with
  | zero =>
    intro fu v f I hj hfu hV hI hfl
    have := Vf_bd hn hc hV
    omega
  | succ q ih =>
    intro fu v f I hj hfu hV hI hfl
    obtain ⟨n, rfl⟩ : ∃ n, fu = n + 1 := ⟨fu - 1, by omega⟩
    obtain ⟨r, I6, R, via, rk, e6, f6, hF, hvi, hres⟩ := m_aug (N := N) (z := z) hn hI hfl hN ha hz hV.1 hc
    have hI6 := hI.fr f6 (by simp) (by simp) (by simp)
    have hfl6 : FlM ν c f I6 := fun l hl => by rw [f6 329 (by simp), f6 330 (by simp)]; exact hfl l hl
    rcases hres with ⟨rfl, hRz, hcl⟩ | ⟨rfl, hRz⟩
    · refine ⟨v, I6, ?_, cut_max hn ha hV (S := fun x => R.testBit x) hF.2.1 hRz (fun l hl => ?_), f6.mono (by simp)⟩
      · rw [mX11_flow_118, e6, ob_some]
        dsimp only
        rw [if_pos rfl]
      · have h1 := hcl l hl
        have h2 := hV.1 l hl
        refine ⟨fun ha hb => ?_, fun ha hb => ?_⟩
        · have := h1.1 ha hb; omega
        · have := h1.2 ha hb; omega
    · have hrk : rk z ≤ 7 := by
        have h1 := hF.2.2.1 z hRz
        have h2 := pcn_8b hF.1
        omega
      obtain ⟨g, I10, e10, f10, hg, hGa⟩ := m_f130 (z := z) (k2 := nI z) (k4 := zI v) hn hV.1 ha hF 7 z N f I6 hrk hRz (by omega) hI6 hvi hfl6 (GI_0 hV.1)
      have hV' := GI_fin ha haz hV hGa
      obtain ⟨v', I', e', hM, f'⟩ := ih n (v + 1) g I10 (by omega) (by omega) hV' (hI6.fr f10 (by simp) (by simp) (by simp)) hg
      refine ⟨v', I', ?_, hM, ((f6.mono (by simp)).tr (f10.mono (by simp))).tr f'⟩
      rw [mX11_flow_118, e6, ob_some]
      dsimp only
      rw [if_neg (show ¬ (1 : Int32) = 0 by decide), e10, ob_some, show (1 : Int32) = zI 1 from rfl, zI_add, e']
theorem m_f54 (hn : WfN ν) (hI : NetM ν I) (hs : MS ν 317 0 σ I) (hw : WfW ν σ) (hN : 100 ≤ N) (hp : p ≤ 7) {k1 k2 : Int32} : ∃ I', mX11_flow_54 N k1 k2 (nI p) N 0 I = some I' ∧ Fr [329, 330] I I' ∧ FlM ν (cpF ν σ p) (fun _ => 0) I' := by
  have hln := hn.2.2.1
  obtain ⟨I', hP, e⟩ := loopP (F := fun n s i => mX11_flow_54 N k1 k2 (nI p) n i s) (b := ν.ln) (out := id)
    (P := fun k s => Fr [329, 330] I s ∧ ∀ l, l < k → s 329 l = zI (cpF ν σ p l) ∧ s 330 l = 0)
    (fun n s hP => by
      show mX11_flow_54 N k1 k2 (nI p) (n + 1) (nI ν.ln) s = some s
      rw [mX11_flow_54, (hI.fr hP.1 (by simp) (by simp) (by simp)).2.1, if_pos (nI_le (Nat.le_refl _) (by omega))])
    (fun n k s hk hP => by
      obtain ⟨fr, h9⟩ := hP
      have hIs := hI.fr fr (by simp) (by simp) (by simp)
      have hss : MS ν 317 0 σ s := hs.c (fr 317 (by simp))
      have hb := pl_sml (x := 99) (p := p) hn hw hk
      refine ⟨upd2 (upd2 s 329 k (zI (cpF ν σ p k))) 330 k 0, ?_, (fr.u2 (by simp)).u2 (by simp), fun l hl => ?_⟩
      · show mX11_flow_54 N k1 k2 (nI p) (n + 1) (nI k) s = _
        rw [mX11_flow_54, hIs.2.1, if_neg (nI_ge hk (by omega)), show mX11_poolAt N 0 (nI k) (nI p) s = _ from m_pool (b := 0) hn hIs hss hw (by omega) hN hk hp, ob_some, show mX11_isUp 0 (nI k) s = _ from m_up (b := 0) hss (by omega) (by omega), ob_some, nI_1, nI_clamp (by omega)]
        by_cases hu : bt σ.up k = true
        · rw [if_neg (show ¬ (if bt σ.up k = true then (1 : Int32) else 0) = 0 by rw [if_pos hu]; decide)]
          by_cases h0 : 0 < pl ν σ 99 k p
          · have ec : cpF ν σ p k = pl ν σ 99 k p := if_pos ⟨hu, h0⟩
            rw [if_neg (fun h => by rw [show (0 : Int32) = zI 0 from rfl, zI_le ⟨by omega, by omega⟩ ⟨by omega, by omega⟩] at h; omega), ck_n (by omega) (by decide), ec]
          · have ec : cpF ν σ p k = 0 := if_neg (fun h => h0 h.2)
            rw [if_pos (show zI (pl ν σ 99 k p) ≤ (0 : Int32) by rw [show (0 : Int32) = zI 0 from rfl, zI_le ⟨by omega, by omega⟩ ⟨by omega, by omega⟩]; omega), ck_n (by omega) (by decide), ec]
            rfl
        · have ec : cpF ν σ p k = 0 := if_neg (fun h => hu h.1)
          rw [if_pos (show (if bt σ.up k = true then (1 : Int32) else 0) = 0 by rw [if_neg hu]), ck_n (by omega) (by decide), ec]
          rfl
      · by_cases el : l = k
        · rw [el, u2_at, u2_c (show (329 : Nat) ≠ 330 by decide), u2_at]
          exact ⟨rfl, rfl⟩
        · refine ⟨?_, ?_⟩
          · rw [u2_c (show (329 : Nat) ≠ 330 by decide), u2_ne (fun h => el h.2)]; exact (h9 l (by omega)).1
          · rw [u2_ne (fun h => el h.2), u2_c (show (330 : Nat) ≠ 329 by decide)]; exact (h9 l (by omega)).2)
    N 0 I (Nat.zero_le _) (by omega) ⟨Fr.rf, fun l hl => by omega⟩
  exact ⟨I', e, hP.1, fun l hl => by rw [Int.sub_zero]; exact hP.2 l hl⟩
end MFlow
section FlowS
variable {N : Nat}
set_option maxHeartbeats 1000000 in
theorem s_flow (hN : 100000000000 ≤ N) : St_flow N Inv := by
  intro c I J a1 a2 a3 hc hInv
  obtain ⟨⟨ν, σ, ks, vs, hP⟩, mv⟩ := id hInv
  obtain ⟨hn, g, c1, m1, c2, m2, ac, sg, im, tp, ct⟩ := id hP
  have hnn := hn.2.1
  have hln := hn.2.2.1
  have hww := g.wf hn
  have s0 : ∀ {K : gI}, Sm K (upd2 K 310 0 0) := Sm.rf.u0
  have m1' : NetM ν (upd2 I 310 0 0) := m1.sm s0
  rcases nod_ck hn a1 with ⟨n1, hn1, rfl, eM1⟩ | ⟨b1, eM1⟩
  · rcases nod_ck hn a2 with ⟨n2, hn2, rfl, eM2⟩ | ⟨b2, eM2⟩
    · have en : nI n1 = nI n2 ↔ n1 = n2 := nI_eq (by omega) (by omega)
      have baseM : ∀ (K : gI) x, NetM ν K → (if nI n1 = nI n2 then (some 0) else (Option.bind (mX11_within a3 0 7 (upd2 K 310 0 0)) (fun r11 => if r11 = 0 then (some 0) else (some 1))) : Option (Int32)) = some x → mX11_flow N (nI n1) (nI n2) a3 K = Option.bind (mX11_right x 2 (upd2 K 310 0 0)) (fun (r14, I15) => if r14 = 0 then (some (0, I15)) else (Option.bind (mX11_flow_54 N (nI n1) (nI n2) a3 N 0 I15) (fun I28 => Option.bind (mX11_flow_118 N (nI n1) (nI n2) N 0 I28) (fun (y57, I58) => some (y57, I58))))) := by
        intro K x hK hx
        unfold mX11_flow
        rw [eM1 _ (hK.sm s0) u2_at, ob_some]
        dsimp only
        rw [if_neg (show ¬ (1 : Int32) = 0 by decide), eM2 _ (hK.sm s0) u2_at, ob_some]
        dsimp only
        rw [if_neg (show ¬ (1 : Int32) = 0 by decide), hx, ob_some]
      have bad : (mX10_flow N (nI n1) (nI n2) a3 I = some (.inr xnA, I)) → ((if nI n1 = nI n2 then (some 0) else (Option.bind (mX11_within a3 0 7 (upd2 I 310 0 0)) (fun r11 => if r11 = 0 then (some 0) else (some 1))) : Option (Int32)) = some 0) → ∃ (rv : Int32 ⊕ String) (I1 : gI) (bb : Int32) (I2 : gI), mX10_flow N (nI n1) (nI n2) a3 I = some (rv, I1) ∧ (∀ E, rv = .inr E → E = xnN ∨ E = xnA) ∧ mX11_flow N (nI n1) (nI n2) a3 I1 = some (bb, I2) ∧ I2 310 0 = kL2 rv ∧ (∀ v, rv = .inl v → v = bb) ∧ Inv (c + 1) I2 := by
        intro h1 h2
        refine ⟨.inr xnA, I, 0, upd2 (upd2 I 310 0 0) 310 0 2, h1, (fun E h => by cases h; exact Or.inr rfl), ?_, u2_at.trans (by decide), (fun v h => by cases h), hInv.sm s0.u0⟩
        rw [baseM I 0 m1 h2, m_right0 u2_at (by decide), ob_some]
        dsimp only
        rw [if_pos rfl]
      by_cases h12 : n1 = n2
      · refine bad ?_ (by rw [if_pos (en.mpr h12)])
        unfold mX10_flow mX10_checkUnlike
        rw [c_nod1 hn c1 hn1 hn2, lb_l, if_pos (en.mpr h12), lb_r]
      · have h12' : ¬ nI n1 = nI n2 := fun h => h12 (en.mp h)
        rcases wi_ck (lo := 0) (hi := 7) (by omega) (by omega) a3 with ⟨p, -, hp, rfl, eW⟩ | ⟨hno, eW⟩
        · obtain ⟨I4, e4, f4, w4⟩ := c_show (N := N) (u := 36) (a := -1) (x := 99) (p := p) hn c1 c2 (by omega) hww (by omega) (Or.inr ⟨rfl, by omega⟩) hp
          have c4 := c1.fr f4 (by simp)
          have cs4 := c2.fr f4 (by simp) (by simp) (by simp)
          obtain ⟨v, I9, e9, hM9, f9⟩ := c_flow (N := N) (p := p) (a := n1) (z := n2) hn c4 hww (by omega) (by omega) (by omega) h12 w4
          have fA : Fr [31, 34, 35] I I9 := (f4.mono (by simp)).tr (f9.mono (by simp))
          have sm9 : Sm I I9 := Sm.fr fA (by simp [sc])
          have m9 := m1.sm sm9
          have m9' : NetM ν (upd2 I9 310 0 0) := m9.sm s0
          have h9' : MS ν 317 0 σ (upd2 I9 310 0 0) := (m2.c (fA 317 (by simp)) : MS ν 317 0 σ I9).c (u2_c (by decide))
          have hc99 : ∀ l, l < ν.ln → cpF ν σ p l ≤ 99 := fun l hl => (cpF_bd hn hww hl).2
          obtain ⟨I7, e7, f7, h7⟩ := m_f54 (N := N) (k1 := nI n1) (k2 := nI n2) hn m9' h9' hww (by omega) hp
          have hV0 : Vf ν (cpF ν σ p) n1 n2 (fun _ => 0) 0 := by
            have h0 : ∀ x, ntf ν (fun _ => 0) x = 0 := fun x => sm_n0 (fun l _ => by
              show (if ν.L l 0 = x then (0 : Int) else 0) - (if ν.L l 1 = x then (0 : Int) else 0) = 0
              split <;> split <;> rfl)
            exact ⟨fun l hl => ⟨Int.le_refl _, (cpF_bd hn hww hl).1⟩, fun x _ _ _ => h0 x, h0 n1⟩
          obtain ⟨v', I8, e8, hM8, f8⟩ := m_f118 (N := N) (a := n1) (z := n2) hn (by omega) (by omega) (by omega) h12 hc99 1585 N 0 (fun _ => 0) I7 (by omega) (by omega) hV0 (m9'.fr f7 (by simp) (by simp) (by simp)) h7
          obtain rfl := Mxf_one hM9 hM8
          have f78 : Fr [329, 330, 331] (upd2 I9 310 0 0) I8 := (f7.mono (by simp)).tr f8
          refine ⟨.inl (zI v), I9, zI v, I8, ?_, (fun E h => by cases h), ?_, (by rw [f78 310 (by simp), u2_at]; rfl), (fun v h => by cases h; rfl), hInv.sm (sm9.tr (s0.tr (Sm.fr f78 (by simp [sc]))))⟩
          · unfold mX10_flow mX10_checkUnlike mX10_checkPriority mX10_isPriority
            rw [c_nod1 hn c1 hn1 hn2, lb_l, if_neg h12', lb_l, if_neg (nI_pos (by omega)), show (7 : Int32) = nI 7 from rfl, if_neg (nI_nlt hp (by omega)), ob_some, if_neg (show ¬ (1 : Int32) = 0 by decide), lb_l, e4, ob_some, show I4 36 2 = σ.up from cs4.1, e9, ob_some]
          · rw [baseM I9 1 m9 (by rw [if_neg h12', show mX11_within (nI p) 0 7 (upd2 I9 310 0 0) = some 1 from eW _, ob_some, if_neg (show ¬ (1 : Int32) = 0 by decide)]), m_right1 u2_at, ob_some]
            dsimp only
            rw [if_neg (show ¬ (1 : Int32) = 0 by decide), e7, ob_some, show mX11_flow_118 N (nI n1) (nI n2) N 0 I7 = some (zI v, I8) from e8, ob_some]
        · refine bad ?_ (by rw [if_neg h12', show mX11_within a3 0 7 (upd2 I 310 0 0) = some 0 from eW _, ob_some, if_pos (show (0 : Int32) = 0 from rfl)])
          unfold mX10_flow mX10_checkUnlike mX10_checkPriority mX10_isPriority
          rw [c_nod1 hn c1 hn1 hn2, lb_l, if_neg h12', lb_l]
          rcases i_nn a3 with h | ⟨n, h1, rfl⟩
          · rw [if_pos h]; rfl
          · by_cases h2 : n ≤ 7
            · exact absurd rfl (hno n (by omega) h2)
            · rw [if_neg (nI_pos (by omega)), show (7 : Int32) = nI 7 from rfl, if_pos (nI_lt (by omega) (by omega))]; rfl
    · refine ⟨.inr xnN, I, 0, upd2 (upd2 I 310 0 0) 310 0 1, ?_, (fun E h => by cases h; exact Or.inl rfl), ?_, u2_at.trans (by decide), (fun v h => by cases h), hInv.sm s0.u0⟩
      · unfold mX10_flow
        rw [c_nod2 c1 (Or.inr ⟨nI_pos (by omega), nI_ge hn1 (by omega), b2⟩), lb_r]
      · unfold mX11_flow
        rw [eM1 _ m1' u2_at, ob_some]
        dsimp only
        rw [if_neg (show ¬ (1 : Int32) = 0 by decide), eM2 _ m1' u2_at, ob_some]
        dsimp only
        rw [if_pos rfl]
  · refine ⟨.inr xnN, I, 0, upd2 (upd2 I 310 0 0) 310 0 1, ?_, (fun E h => by cases h; exact Or.inl rfl), ?_, u2_at.trans (by decide), (fun v h => by cases h), hInv.sm s0.u0⟩
    · unfold mX10_flow
      rw [c_nod2 c1 (Or.inl b1), lb_r]
    · unfold mX11_flow
      rw [eM1 _ m1' u2_at, ob_some]
      dsimp only
      rw [if_pos rfl]
end FlowS
