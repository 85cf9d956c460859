/-! bounds of a link's capacity; other -/
section Bnd
variable {ν : Nt} {σ : St} {N l : Nat} {I : gI} {vs : List (Nat → Nat)}
/-- all as it was but the two bounds -/
def G7 (I K : gI) : Prop := (∀ c, c ≠ 173 → K c = I c) ∧ ∀ j, j ≠ 6 → j ≠ 7 → K 173 j = I 173 j
theorem G7.rf : G7 I I := ⟨fun _ _ => rfl, fun _ _ _ => rfl⟩
theorem G7.tr {K K' : gI} (h : G7 I K) (h2 : G7 K K') : G7 I K' := ⟨fun c hc => (h2.1 c hc).trans (h.1 c hc), fun j h6 h7 => (h2.2 j h6 h7).trans (h.2 j h6 h7)⟩
theorem G7.u {K : gI} (h : G7 I K) {j : Nat} {v : Int32} (hj : j = 6 ∨ j = 7) : G7 I (upd2 K 173 j v) := ⟨fun c hc => by rw [u2_c hc]; exact h.1 c hc, fun i h6 h7 => by rw [u2_ne (by omega)]; exact h.2 i h6 h7⟩
theorem G7.fr {K : gI} (h : G7 I K) : Fr [173] I K := fun c hc => h.1 c (fun e => hc (by simp [e]))
theorem SgC.g7 {K : gI} (hg : SgC vs I) (h : G7 I K) : SgC vs K := ⟨by rw [h.2 5 (by decide) (by decide)]; exact hg.1, fun j hj k hk => by rw [h.1 _ (by omega)]; exact hg.2 j hj k hk⟩
theorem Sm4.g7 {K : gI} (h : G7 I K) : Sm4 I K := fun c j k => by
  by_cases e : c = 173
  · subst e
    have := k.1 rfl
    exact h.2 j (by omega) (by omega)
  · rw [h.1 c e]
set_option maxHeartbeats 2000000 in
theorem c_bound (hn : WfN ν) (hI : NetC ν I) (hs : CS ν 36 σ I) (hw : WfW ν σ) (hN : 100 ≤ N) (hv8 : vs.length ≤ 8) (hv : ∀ v ∈ vs, SnOk ν v) (hg : SgC vs I) (hl : l < ν.ln) : ∃ (K : gI) (lo hi : Int), mX7_bound N 36 (nI l) I = some K ∧ G7 I K ∧ K 173 6 = zI lo ∧ K 173 7 = zI hi ∧ 0 ≤ lo ∧ lo ≤ 2000 ∧ -1000 ≤ hi ∧ hi ≤ 1000000 ∧ ∀ c : Nat, allS (capS ν l c) σ vs = true ↔ (lo ≤ (c : Int) ∧ (c : Int) ≤ hi) ∨ (lo ≤ (c : Int) ∧ 1000000 < (c : Int) ∧ hi = 1000000) := by
  have hnn := hn.2.1
  have hln := hn.2.2.1
  have hL := hn.2.2.2.2.1 l hl
  obtain ⟨K, hP, e⟩ := loopP (F := fun n K i => mX7_bound_19 N 36 (nI l) (nI (2 ^ l)) n i K) (b := vs.length) (out := id)
    (P := fun k K => G7 I K ∧ ∃ lo hi : Int, K 173 6 = zI lo ∧ K 173 7 = zI hi ∧ 0 ≤ lo ∧ lo ≤ 2000 ∧ -1000 ≤ hi ∧ hi ≤ 1000000 ∧ ∀ c : Nat, (∀ j, (hj : j < vs.length) → j < k → seenA (capS ν l c) σ vs[j] = true) ↔ (lo ≤ (c : Int) ∧ (c : Int) ≤ hi) ∨ (lo ≤ (c : Int) ∧ 1000000 < (c : Int) ∧ hi = 1000000))
    (fun n K hP => by
      show mX7_bound_19 N 36 (nI l) (nI (2 ^ l)) (n + 1) (nI vs.length) K = some K
      rw [mX7_bound_19, (hg.g7 hP.1).1, if_pos (nI_le (Nat.le_refl _) (by omega))])
    (fun n j K hj hP => by
      obtain ⟨g7, lo, hi, k6, k7, b1, b2, b3, b4, hcc⟩ := hP
      have hIK := hI.fr g7.fr (by simp)
      have hsK := hs.fr g7.fr (by simp) (by simp) (by simp)
      have hgK := hg.g7 g7
      obtain ⟨o0, o1, o2, o3, o4, o5, o6⟩ := hv _ (List.getElem_mem hj)
      obtain ⟨x, ex, hx⟩ := c_we (N := N) hn hIK hsK hw hN hv8 hv hgK hj
      have hp2 : nI (2 ^ l) = (1 : Int32) <<< (nI l &&& 31) := (sh1_n l (by omega)).symm
      have r5 := c_reach (N := N) (x := x &&& (nI (2 ^ l) ^^^ (-1))) (go := go1 ν σ (vs[j] 2) (vs[j] 3) l) (a := vs[j] 0) (z := vs[j] 1) (h := 7) hn hIK (by omega) (by omega) (by omega) (fun l' hl' => by
        rw [b_not (by omega), hx l' (by omega), hp2, b_sh1 (by omega) (by omega)]
        unfold go1
        by_cases e : l' = l <;> simp [e, hl', hl]) hN
      have r7 := c_reach (N := N) (x := x ||| (nI (2 ^ l) &&& σ.up)) (go := go2 ν σ (vs[j] 2) (vs[j] 3) l) (a := vs[j] 0) (z := vs[j] 1) (h := 7) hn hIK (by omega) (by omega) (by omega) (fun l' hl' => by
        rw [b_or, b_and, hx l' (by omega), hp2, b_sh1 (by omega) (by omega)]
        unfold go2
        by_cases e : l' = l
        · subst e; simp [hl']
        · simp [e, hl']) hN
      obtain ⟨w1, hw1⟩ : ∃ w1, w1 = rch ν (go1 ν σ (vs[j] 2) (vs[j] 3) l) (vs[j] 0) 7 (vs[j] 1) := ⟨_, rfl⟩
      obtain ⟨w2, hw2⟩ : ∃ w2, w2 = rch ν (go2 ν σ (vs[j] 2) (vs[j] 3) l) (vs[j] 0) 7 (vs[j] 1) := ⟨_, rfl⟩
      have h12 : w1 = true → w2 = true := by
        rw [hw1, hw2]
        exact rch_le (fun l' _ h => by unfold go1 at h; unfold go2; simp at h; simp [h.1])
      rw [← hw1] at r5
      rw [← hw2] at r7
      have hbp := pl_sml (x := 99) (p := vs[j] 3) hn hw hl
      obtain ⟨nd, hnd⟩ : ∃ nd, nd = ndd ν σ (vs[j] 2) (vs[j] 3) l := ⟨_, rfl⟩
      have hnd' : nd = (ν.L l 3 : Int) - pl ν σ 99 l (vs[j] 3) + ((vs[j] 2 : Nat) : Int) := hnd
      have hseen : ∀ c : Nat, seenA (capS ν l c) σ vs[j] = ((if nd ≤ (c : Int) then w2 else w1) == decide (vs[j] 4 = 1)) := fun c => by
        unfold seenA
        rw [seen_cap, hnd, hw1, hw2]
      have ndb : 1 ≤ nd ∧ nd ≤ 1200 ∨ nd ≤ 0 ∧ -100 ≤ nd := by omega
      have step : ∀ (lo' hi' : Int) (K' : gI), mX7_bound_19 N 36 (nI l) (nI (2 ^ l)) (n + 1) (nI j) K = mX7_bound_19 N 36 (nI l) (nI (2 ^ l)) n (nI (j + 1)) K' → G7 I K' → K' 173 6 = zI lo' → K' 173 7 = zI hi' → 0 ≤ lo' → lo' ≤ 2000 → -1000 ≤ hi' → hi' ≤ 1000000 → (∀ c : Nat, (seenA (capS ν l c) σ vs[j] = true ∧ ((lo ≤ (c : Int) ∧ (c : Int) ≤ hi) ∨ (lo ≤ (c : Int) ∧ 1000000 < (c : Int) ∧ hi = 1000000))) ↔ (lo' ≤ (c : Int) ∧ (c : Int) ≤ hi') ∨ (lo' ≤ (c : Int) ∧ 1000000 < (c : Int) ∧ hi' = 1000000)) → ∃ K', mX7_bound_19 N 36 (nI l) (nI (2 ^ l)) (n + 1) (nI j) K = mX7_bound_19 N 36 (nI l) (nI (2 ^ l)) n (nI (j + 1)) K' ∧ G7 I K' ∧ ∃ lo hi : Int, K' 173 6 = zI lo ∧ K' 173 7 = zI hi ∧ 0 ≤ lo ∧ lo ≤ 2000 ∧ -1000 ≤ hi ∧ hi ≤ 1000000 ∧ ∀ c : Nat, (∀ j', (hj : j' < vs.length) → j' < j + 1 → seenA (capS ν l c) σ vs[j'] = true) ↔ (lo ≤ (c : Int) ∧ (c : Int) ≤ hi) ∨ (lo ≤ (c : Int) ∧ 1000000 < (c : Int) ∧ hi = 1000000) := by
        intro lo' hi' K' e1 e2 e3 e4 e5 e6 e7 e8 e9
        refine ⟨K', e1, e2, lo', hi', e3, e4, e5, e6, e7, e8, fun c => ?_⟩
        rw [← e9 c, ← hcc c]
        constructor
        · intro h
          exact ⟨h j hj (by omega), fun j' hj' hlt => h j' hj' (by omega)⟩
        · intro h j' hj' hlt
          by_cases ej : j' = j
          · subst ej; exact h.1
          · exact h.2 j' hj' (by omega)
      have base : mX7_bound_19 N 36 (nI l) (nI (2 ^ l)) (n + 1) (nI j) K = (if (if w1 = true then (1 : Int32) else 0) = (if w2 = true then 1 else 0) then (if (if w1 = true then (1 : Int32) else 0) = nI (vs[j] 4) then (mX7_bound_19 N 36 (nI l) (nI (2 ^ l)) n (nI (j + 1)) (upd2 K 173 7 (K 173 7))) else (mX7_bound_19 N 36 (nI l) (nI (2 ^ l)) n (nI (j + 1)) (upd2 K 173 7 (-1)))) else (if nI (vs[j] 4) = 0 then (mX7_bound_19 N 36 (nI l) (nI (2 ^ l)) n (nI (j + 1)) (upd2 K 173 7 (if zI (nd - 1) < zI hi then zI (nd - 1) else zI hi))) else (mX7_bound_19 N 36 (nI l) (nI (2 ^ l)) n (nI (j + 1)) (upd2 K 173 6 (if zI lo < zI nd then zI nd else zI lo))))) := by
        have ex12 : nI (ν.L l 3) - zI (pl ν σ 99 l (vs[j] 3)) + nI (vs[j] 2) = zI nd := by rw [← zI_nat, zI_sub, zI_addn, hnd']
        have em1 : zI nd - 1 = zI (nd - 1) := by rw [show (1 : Int32) = zI 1 from rfl, zI_sub]
        rw [mX7_bound_19, hgK.1, if_neg (nI_ge hj (by omega)), ex, ob_some, ck_n (by omega) (by decide), nI_clamp (by omega), show K 174 j = nI (vs[j] 0) from hgK.2 j hj 0 (by omega), show K 175 j = nI (vs[j] 1) from hgK.2 j hj 1 (by omega), show K 176 j = nI (vs[j] 2) from hgK.2 j hj 2 (by omega), show K 177 j = nI (vs[j] 3) from hgK.2 j hj 3 (by omega), show K 178 j = nI (vs[j] 4) from hgK.2 j hj 4 (by omega), show (7 : Int32) = nI 7 from rfl, r5, ob_some, show K 36 2 = σ.up from hsK.1, r7, ob_some, ck_n (by omega) (by decide), c_pool hn hIK hsK hw hN (Or.inr ⟨rfl, show 9 ≤ 99 by omega⟩) hl o5, ob_some, nI_clamp (by omega), show K 6 l = nI (ν.L l 3) from hIK.2.2.2.1 l hl 3 (by decide), ex12, nm_n, em1, k6, k7, nI_1]
      show ∃ K', mX7_bound_19 N 36 (nI l) (nI (2 ^ l)) (n + 1) (nI j) K = mX7_bound_19 N 36 (nI l) (nI (2 ^ l)) n (nI (j + 1)) K' ∧ _
      by_cases hw12 : w1 = w2
      · rw [if_pos (by rw [hw12])] at base
        have hsn := sn_eqC (b := w1) o6
        have hs2 : ∀ c : Nat, seenA (capS ν l c) σ vs[j] = (w1 == decide (vs[j] 4 = 1)) := fun c => by rw [hseen c, ← hw12]; split <;> rfl
        by_cases h2 : (w1 == decide (vs[j] 4 = 1)) = true
        · rw [if_pos (hsn.mpr h2)] at base
          refine step lo hi _ base (g7.u (Or.inr rfl)) (by rw [u2_ne (by omega)]; exact k6) (by rw [u2_at]; exact k7) b1 b2 b3 b4 (fun c => ?_)
          rw [hs2 c]
          exact ⟨fun h => h.2, fun h => ⟨h2, h⟩⟩
        · rw [if_neg (fun h => h2 (hsn.mp h))] at base
          refine step lo (-1) _ base (g7.u (Or.inr rfl)) (by rw [u2_ne (by omega)]; exact k6) (by rw [u2_at]; rfl) b1 b2 (by omega) (by omega) (fun c => ?_)
          rw [hs2 c]
          exact ⟨fun h => absurd h.1 h2, fun h => by omega⟩
      · have hw1f : w1 = false := by
          cases h : w1 with
          | false => rfl
          | true => exact absurd (by rw [h, h12 h]) hw12
        have hw2t : w2 = true := by
          cases h : w2 with
          | true => rfl
          | false => exact absurd (by rw [hw1f, h]) hw12
        rw [if_neg (by rw [hw1f, hw2t]; decide)] at base
        have hs2 : ∀ c : Nat, seenA (capS ν l c) σ vs[j] = true ↔ (nd ≤ (c : Int) ↔ vs[j] 4 = 1) := fun c => by
          rw [hseen c, hw1f, hw2t]
          by_cases h1 : nd ≤ (c : Int) <;> by_cases h2 : vs[j] 4 = 1 <;> simp [h1, h2]
        have o6' : vs[j] 4 = 0 ∨ vs[j] 4 = 1 := by omega
        rcases o6' with h4 | h4
        · rw [if_pos (by rw [h4]; rfl)] at base
          refine step lo (if nd - 1 < hi then nd - 1 else hi) _ base (g7.u (Or.inr rfl)) (by rw [u2_ne (by omega)]; exact k6) ?_ b1 b2 (by split <;> omega) (by split <;> omega) (fun c => ?_)
          · rw [u2_at]
            by_cases h5 : nd - 1 < hi
            · rw [if_pos h5, if_pos ((zI_lt ⟨by omega, by omega⟩ ⟨by omega, by omega⟩).mpr h5)]
            · rw [if_neg h5, if_neg (fun h => h5 ((zI_lt ⟨by omega, by omega⟩ ⟨by omega, by omega⟩).mp h))]
          · rw [hs2 c, h4]
            by_cases h5 : nd - 1 < hi
            · rw [if_pos h5]; omega
            · rw [if_neg h5]; omega
        · rw [if_neg (by rw [h4]; decide)] at base
          refine step (if lo < nd then nd else lo) hi _ base (g7.u (Or.inl rfl)) ?_ (by rw [u2_ne (by omega)]; exact k7) (by split <;> omega) (by split <;> omega) b3 b4 (fun c => ?_)
          · rw [u2_at]
            by_cases h5 : lo < nd
            · rw [if_pos h5, if_pos ((zI_lt ⟨by omega, by omega⟩ ⟨by omega, by omega⟩).mpr h5)]
            · rw [if_neg h5, if_neg (fun h => h5 ((zI_lt ⟨by omega, by omega⟩ ⟨by omega, by omega⟩).mp h))]
          · rw [hs2 c, h4]
            by_cases h5 : lo < nd
            · rw [if_pos h5]; omega
            · rw [if_neg h5]; omega)
    N 0 (upd2 (upd2 I 173 6 0) 173 7 1000000) (Nat.zero_le _) (by omega) ⟨(G7.rf.u (Or.inl rfl)).u (Or.inr rfl), 0, 1000000, by rw [u2_ne (by omega), u2_at]; rfl, by rw [u2_at]; rfl, by omega, by omega, by omega, by omega, fun c => ⟨fun _ => by omega, fun _ j _ h => by omega⟩⟩
  obtain ⟨g7, lo, hi, k6, k7, b1, b2, b3, b4, hcc⟩ := hP
  refine ⟨K, lo, hi, ?_, g7, k6, k7, b1, b2, b3, b4, fun c => ?_⟩
  · unfold mX7_bound
    rw [sh1_n l (by omega), show mX7_bound_19 N 36 (nI l) (nI (2 ^ l)) N 0 (upd2 (upd2 I 173 6 0) 173 7 1000000) = some K from e, ob_some]
  · rw [← hcc c]
    exact all_ix.trans ⟨fun h j hj _ => h j hj, fun h j hj => h j hj hj⟩
/-! which capacities: how many, the first -/
def cfO (ok : Nat → Bool) : Nat → Nat
  | 0 => 0
  | m + 1 => (if ok (20 - m) = true then 1 else 0) + cfO ok m
def ffO (ok : Nat → Bool) : Nat → Option Nat
  | 0 => none
  | m + 1 => if ok (20 - m) = true then some (20 - m) else ffO ok m
theorem cf_0 {ok : Nat → Bool} : ∀ {m : Nat}, m ≤ 20 → (∀ c, 21 - m ≤ c → c ≤ 20 → ok c = false) → cfO ok m = 0 ∧ ffO ok m = none
  | 0, _, _ => ⟨rfl, rfl⟩
  | m + 1, hm, h => by
    obtain ⟨i1, i2⟩ := cf_0 (ok := ok) (m := m) (by omega) (fun c h1 h2 => h c (by omega) h2)
    have h0 := h (20 - m) (by omega) (by omega)
    rw [cfO, ffO, h0, i1, i2]
    exact ⟨rfl, rfl⟩
theorem cf_skip {ok : Nat → Bool} {b : Nat} (hb : ∀ c, 1 ≤ c → c < b → ok c = false) : ∀ {m : Nat}, m ≤ 20 → 21 - m ≤ b → b ≤ 21 → cfO ok m = cfO ok (21 - b) ∧ ffO ok m = ffO ok (21 - b)
  | 0, _, h1, h2 => by rw [show 21 - b = 0 by omega]; exact ⟨rfl, rfl⟩
  | m + 1, hm, h1, h2 => by
    by_cases e : 21 - (m + 1) = b
    · rw [show 21 - b = m + 1 by omega]; exact ⟨rfl, rfl⟩
    · obtain ⟨i1, i2⟩ := cf_skip hb (m := m) (by omega) (by omega) h2
      have h0 := hb (20 - m) (by omega) (by omega)
      rw [cfO, ffO, h0, ← i1, ← i2]
      refine ⟨?_, ?_⟩
      · simp
      · simp
theorem cf_le {ok : Nat → Bool} : ∀ m, cfO ok m ≤ m
  | 0 => Nat.le_refl 0
  | m + 1 => by
    have := cf_le (ok := ok) m
    rw [cfO]
    split <;> omega
theorem ff_le {ok : Nat → Bool} {c : Nat} : ∀ {m : Nat}, ffO ok m = some c → c ≤ 20
  | 0, h => by cases h
  | m + 1, h => by
    rw [ffO] at h
    split at h
    · cases h; omega
    · exact ff_le h
theorem c_o73 {ok : Nat → Bool} {lo hi : Int} (hl : l < 16) (hN : True) (hcap : I 6 l = nI (ν.L l 3)) (hc99 : ν.L l 3 ≤ 99) (hi20 : hi ≤ 20) (hlo : -1000 ≤ hi) (hok : ∀ c : Nat, 1 ≤ c → c ≤ 20 → lo ≤ (c : Int) → (ok c = true ↔ c ≠ ν.L l 3 ∧ (c : Int) ≤ hi)) : ∀ (m fu c : Nat) (v : Int32), c + m = 21 → 1 ≤ c → lo ≤ (c : Int) → m < fu → mX10_otherCapacities_73 0 (nI l) (zI hi) I fu v (nI c) = some (.inl (v + nI (cfO ok m))) ∧ mX10_otherCapacities_73 1 (nI l) (zI hi) I fu v (nI c) = some (match ffO ok m with | none => .inl v | some c' => .inr (nI (100 * l + c'), I)) := by
  intro m
  induction m with
  | zero =>
    intro fu c v h1 h2 h3 h4
    obtain ⟨n, rfl⟩ : ∃ n, fu = n + 1 := ⟨fu - 1, by omega⟩
    have hlt : zI hi < nI c := by rw [← zI_nat, zI_lt ⟨by omega, by omega⟩ ⟨by omega, by omega⟩]; omega
    refine ⟨?_, ?_⟩
    · rw [mX10_otherCapacities_73, if_pos hlt, cfO, nI_0', z_add]
    · rw [mX10_otherCapacities_73, if_pos hlt, ffO]
  | succ m ih =>
    intro fu c v h1 h2 h3 h4
    obtain ⟨n, rfl⟩ : ∃ n, fu = n + 1 := ⟨fu - 1, by omega⟩
    by_cases hlt : hi < (c : Int)
    · have hlt' : zI hi < nI c := by rw [← zI_nat, zI_lt ⟨by omega, by omega⟩ ⟨by omega, by omega⟩]; exact hlt
      obtain ⟨z1, z2⟩ := cf_0 (ok := ok) (m := m + 1) (by omega) (fun c' q1 q2 => by
        cases hx : ok c' with
        | false => rfl
        | true => have := (hok c' (by omega) q2 (by omega)).mp hx; omega)
      refine ⟨?_, ?_⟩
      · rw [mX10_otherCapacities_73, if_pos hlt', z1, nI_0', z_add]
      · rw [mX10_otherCapacities_73, if_pos hlt', z2]
    · have hlt' : ¬ zI hi < nI c := fun h => by rw [← zI_nat, zI_lt ⟨by omega, by omega⟩ ⟨by omega, by omega⟩] at h; exact hlt h
      have h20 : 20 - m = c := by omega
      have hokc := hok c h2 (by omega) h3
      obtain ⟨i1, i2⟩ := ih n (c + 1) v (by omega) (by omega) (by omega) (by omega)
      by_cases hcc : c = ν.L l 3
      · have hno : ok c = false := by
          cases hx : ok c with
          | false => rfl
          | true => exact absurd hcc (hokc.mp hx).1
        refine ⟨?_, ?_⟩
        · rw [mX10_otherCapacities_73, if_neg hlt', ck_n (by omega) (by decide), nI_clamp (by omega), hcap, if_pos (by rw [hcc]), nI_1, i1, cfO, h20, hno]
          simp
        · rw [mX10_otherCapacities_73, if_neg hlt', ck_n (by omega) (by decide), nI_clamp (by omega), hcap, if_pos (by rw [hcc]), nI_1, i2, ffO, h20, hno]
          simp
      · have hyes : ok c = true := hokc.mpr ⟨hcc, by omega⟩
        have hne : ¬ nI c = nI (ν.L l 3) := fun h => hcc ((nI_eq (by omega) (by omega)).mp h)
        obtain ⟨j1, -⟩ := ih n (c + 1) (v + 1) (by omega) (by omega) (by omega) (by omega)
        refine ⟨?_, ?_⟩
        · rw [mX10_otherCapacities_73, if_neg hlt', ck_n (by omega) (by decide), nI_clamp (by omega), hcap, if_neg hne, if_pos rfl, nI_1, j1, cfO, h20, if_pos hyes, ← nI_add, ← Int32.add_assoc]
          rfl
        · rw [mX10_otherCapacities_73, if_neg hlt', ck_n (by omega) (by decide), nI_clamp (by omega), hcap, if_neg hne, if_neg (by decide), ffO, h20, if_pos hyes, show (100 : Int32) = nI 100 from rfl, nI_mul, nI_add]
end Bnd
