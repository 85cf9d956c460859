/-! two ways apart: how many ways there are, the least sum -/
section ApCount
variable {ν : Nt} {go : Nat → Bool} {z : Nat}
/-- links out of a node, of the last j -/
def dgE (ν : Nt) (x : Nat) : Nat → Nat
  | 0 => 0
  | j + 1 => (if ν.L (ν.ln - (j + 1)) 0 = x then 1 else 0) + dgE ν x j
def dg (ν : Nt) (x : Nat) : Nat → Nat
  | 0 => 0
  | k + 1 => dg ν x k + (if ν.L k 0 = x then 1 else 0)
theorem dgE_eq (x : Nat) : ∀ j, j ≤ ν.ln → dgE ν x j + dg ν x (ν.ln - j) = dg ν x ν.ln
  | 0, _ => by rw [dgE, Nat.zero_add, Nat.sub_zero]
  | j + 1, h => by
    have ih := dgE_eq x j (by omega)
    obtain ⟨m, hm⟩ : ∃ m, ν.ln - j = m + 1 := ⟨ν.ln - j - 1, by omega⟩
    have hm2 : ν.ln - (j + 1) = m := by omega
    rw [hm, dg] at ih
    rw [dgE, hm2]
    omega
def Dg (ν : Nt) (x : Nat) : Nat := if dg ν x ν.ln = 0 then 1 else dg ν x ν.ln
theorem Dg_1 (x : Nat) : 1 ≤ Dg ν x := by unfold Dg; split <;> omega
theorem Dg_ge (x : Nat) : dg ν x ν.ln ≤ Dg ν x := by unfold Dg; split <;> omega
def PrV (ν : Nt) (vs : List Nat) : Nat → Nat
  | 0 => 1
  | n + 1 => PrV ν vs n * (if n ∈ vs then 1 else Dg ν n)
theorem PrV_1 (vs : List Nat) : ∀ n, 1 ≤ PrV ν vs n
  | 0 => Nat.le_refl 1
  | n + 1 => by
    rw [PrV]
    have h1 := PrV_1 vs n
    have h2 : 1 ≤ (if n ∈ vs then 1 else Dg ν n) := by split; exact Nat.le_refl 1; exact Dg_1 n
    exact Nat.le_trans h1 (Nat.le_mul_of_pos_right _ h2)
theorem PrV_low {vs : List Nat} {x : Nat} : ∀ n, n ≤ x → PrV ν (x :: vs) n = PrV ν vs n
  | 0, _ => rfl
  | n + 1, h => by
    rw [PrV, PrV, PrV_low n (by omega)]
    have : (n ∈ x :: vs) = (n ∈ vs) := by
      apply propext
      rw [List.mem_cons]
      exact ⟨fun h' => h'.elim (fun e => by omega) id, Or.inr⟩
    simp only [this]
theorem PrV_out {vs : List Nat} {x : Nat} (hx : x ∉ vs) : ∀ n, x < n → PrV ν vs n = Dg ν x * PrV ν (x :: vs) n
  | 0, h => by omega
  | n + 1, h => by
    rw [PrV, PrV]
    by_cases e : x = n
    · subst e
      rw [if_neg hx, if_pos List.mem_cons_self, PrV_low x (Nat.le_refl _), Nat.mul_one, Nat.mul_comm]
    · rw [PrV_out hx n (by omega)]
      have : (n ∈ x :: vs) = (n ∈ vs) := by
        apply propext
        rw [List.mem_cons]
        exact ⟨fun h' => h'.elim (fun e' => absurd e'.symm e) id, Or.inr⟩
      simp only [this]
      rw [Nat.mul_assoc]
theorem EnS_len {f : Nat → List Nat → List (List Nat)} {at' B : Nat} {vs : List Nat} (hB : ∀ l, l < ν.ln → (cand ν go z f at' vs l).length ≤ if ν.L l 0 = at' then B else 0) : ∀ j, j ≤ ν.ln → (EnS ν go z f at' vs j).length ≤ dgE ν at' j * B
  | 0, _ => by rw [EnS]; simp
  | j + 1, h => by
    have ih := EnS_len hB j (by omega)
    have h1 := hB (ν.ln - (j + 1)) (by omega)
    rw [EnS, dgE, List.length_append, Nat.add_mul]
    have h2 : (if ν.L (ν.ln - (j + 1)) 0 = at' then B else 0) = (if ν.L (ν.ln - (j + 1)) 0 = at' then 1 else 0) * B := by split <;> omega
    omega
theorem En_len (hn : WfN ν) : ∀ (m at' : Nat) (vs : List Nat), (En ν go z m at' vs).length ≤ Dg ν at' * PrV ν vs 8
  | 0, at', vs => by rw [En]; simp
  | m + 1, at', vs => by
    have h := EnS_len (ν := ν) (go := go) (z := z) (f := En ν go z m) (at' := at') (B := PrV ν vs 8) (vs := vs) (fun l hl => by
      have hL := hn.2.2.2.2.1 l hl
      have h8 := hn.2.1
      have h1 := PrV_1 (ν := ν) vs 8
      unfold cand
      by_cases hc : go l = true ∧ ν.L l 0 = at' ∧ ν.L l 1 ∉ vs
      · rw [if_pos hc, if_pos hc.2.1]
        by_cases hz : ν.L l 1 = z
        · rw [if_pos hz]; exact h1
        · rw [if_neg hz, List.length_map]
          have := En_len hn m (ν.L l 1) (ν.L l 1 :: vs)
          rw [← PrV_out hc.2.2 8 (by omega)] at this
          exact this
      · rw [if_neg hc]; exact Nat.zero_le _) ν.ln (Nat.le_refl _)
    have e := dgE_eq (ν := ν) at' ν.ln (Nat.le_refl _)
    rw [Nat.sub_self, dg, Nat.add_zero] at e
    rw [En]
    rw [e] at h
    exact Nat.le_trans h (Nat.mul_le_mul_right _ (Dg_ge at'))
def sdg (ν : Nt) : Nat → Nat
  | 0 => 0
  | n + 1 => sdg ν n + dg ν n ν.ln
theorem dg_sm (x : Nat) : ∀ k, (dg ν x k : Int) = sm (fun l => if ν.L l 0 = x then 1 else 0) k
  | 0 => rfl
  | k + 1 => by
    rw [dg, sm, ← dg_sm x k]
    split <;> omega
theorem sdg_sm : ∀ n, (sdg ν n : Int) = sm (fun x => (dg ν x ν.ln : Int)) n
  | 0 => rfl
  | n + 1 => by rw [sdg, sm, ← sdg_sm n]; omega
theorem sdg_8 (hn : WfN ν) : sdg ν 8 = ν.ln := by
  have h8 := hn.2.1
  have h1 : (sdg ν 8 : Int) = (ν.ln : Int) := by
    rw [sdg_sm, sm_congr (fun x _ => dg_sm x ν.ln), sm_swap]
    have : sm (fun l => sm (fun x => if ν.L l 0 = x then (1 : Int) else 0) 8) ν.ln = sm (fun _ => 1) ν.ln := by
      apply sm_congr
      intro l hl
      have hL := hn.2.2.2.2.1 l hl
      show sm (fun x => if ν.L l 0 = x then (1 : Int) else 0) 8 = 1
      rw [sm_congr (g := fun x => if x = ν.L l 0 then (1 : Int) else 0) (fun x _ => by
        by_cases e : ν.L l 0 = x
        · rw [if_pos e, if_pos e.symm]
        · rw [if_neg e, if_neg (fun h => e h.symm)])]
      exact sm_pt (by omega)
    rw [this]
    have c1 : ∀ n, sm (fun _ => (1 : Int)) n = (n : Int) := fun n => by
      induction n with
      | zero => rfl
      | succ n ih => rw [sm, ih]; omega
    exact c1 _
  omega
theorem dg_le (x : Nat) : ∀ k, dg ν x k ≤ k
  | 0 => Nat.le_refl 0
  | k + 1 => by
    rw [dg]
    have := dg_le x k
    split <;> omega
theorem cube3 : ∀ d, d ≤ 16 → (if d = 0 then 1 else d) ^ 3 ≤ 3 ^ d := by decide +kernel
theorem PrV_cube (hn : WfN ν) : ∀ n, (PrV ν [] n) ^ 3 ≤ 3 ^ sdg ν n
  | 0 => by rw [PrV, sdg]; decide
  | n + 1 => by
    have h16 := hn.2.2.1
    have ih := PrV_cube hn n
    have h1 := dg_le (ν := ν) n ν.ln
    have h2 : (Dg ν n) ^ 3 ≤ 3 ^ dg ν n ν.ln := cube3 _ (by omega)
    rw [PrV, sdg, if_neg (by simp), Nat.mul_pow, Nat.pow_add]
    exact Nat.mul_le_mul ih h2
theorem PrV_2048 (hn : WfN ν) : PrV ν [] 8 < 2048 := by
  have h16 := hn.2.2.1
  have h1 := PrV_cube hn 8
  rw [sdg_8 hn] at h1
  have h2 : (3 : Nat) ^ ν.ln ≤ 3 ^ 16 := Nat.pow_le_pow_right (by decide) h16
  rcases Nat.lt_or_ge (PrV ν [] 8) 2048 with h | h
  · exact h
  · have h3 : (2048 : Nat) ^ 3 ≤ (PrV ν [] 8) ^ 3 := Nat.pow_le_pow_left h 3
    have h4 : ¬ (2048 : Nat) ^ 3 ≤ 3 ^ 16 := by decide
    exact absurd (Nat.le_trans h3 (Nat.le_trans h1 h2)) h4
theorem En_2048 (hn : WfN ν) {h a : Nat} (ha : a < 8) : (En ν go z h a [a]).length < 2048 := by
  have h1 := En_len (go := go) (z := z) hn h a [a]
  rw [← PrV_out (ν := ν) (vs := []) (by simp) 8 ha] at h1
  have := PrV_2048 hn
  omega
end ApCount
section Apart
variable {ν : Nt} {go : Nat → Bool} {z h a N n9 : Nat} {I : gI}
def disj (p q : List Nat) : Prop := ∀ l, l ∈ p → l ∉ q
/-- two ways with no link in common -/
def Pr2 (ν : Nt) (go : Nat → Bool) (a z h : Nat) (p q : List Nat) : Prop := IsP ν go a z h p ∧ IsP ν go a z h q ∧ disj p q
theorem Pr2.sym {p q : List Nat} (h2 : Pr2 ν go a z h p q) : Pr2 ν go a z h q p := ⟨h2.2.1, h2.1, fun l h1 h3 => h2.2.2 l h3 h1⟩
def ApV (ν : Nt) (go : Nat → Bool) (a z h v : Nat) : Prop := (∃ p q, Pr2 ν go a z h p q ∧ mt ν p + mt ν q = v) ∧ ∀ p q, Pr2 ν go a z h p q → v ≤ mt ν p + mt ν q
theorem ApV_one {v v' : Nat} (h1 : ApV ν go a z h v) (h2 : ApV ν go a z h v') : v = v' := by
  obtain ⟨⟨p, q, hp, e⟩, m1⟩ := h1
  obtain ⟨⟨p', q', hp', e'⟩, m2⟩ := h2
  have := m1 p' q' hp'
  have := m2 p q hp
  omega
def Snd (ν : Nt) (go : Nat → Bool) (a z h s : Nat) : Prop := s = 1000000 ∨ (s < 1000000 ∧ ∃ p q, Pr2 ν go a z h p q ∧ mt ν p + mt ν q ≤ s)
/-- ways on from where one is -/
def Ext (ν : Nt) (go : Nat → Bool) (a z h x : Nat) (pre r : List Nat) : Prop := chn ν x r z ∧ (vis ν a (pre ++ r)).Nodup ∧ (pre ++ r).length ≤ h ∧ ∀ l ∈ r, go l = true
def Cmp (ν : Nt) (go : Nat → Bool) (a z h s : Nat) (pre r : List Nat) : Prop := ∀ q, IsP ν go a z h q → disj (pre ++ r) q → mt ν (pre ++ r) ≤ mt ν q → s ≤ mt ν (pre ++ r) + mt ν q
/-- what the object holds -/
def ApO (n9 : Nat) (x : Int32) (z h s : Nat) (I : gI) : Prop := I n9 2 = x ∧ I n9 3 = nI z ∧ I n9 4 = nI h ∧ I n9 5 = nI s
theorem ApO.fr {X : List Nat} {x : Int32} {s : Nat} {I' : gI} (h1 : ApO n9 x z h s I) (f : Fr X I I') (hX : n9 ∉ X) : ApO n9 x z h s I' := by
  unfold ApO
  rw [f n9 hX]
  exact h1
theorem orl_w {p : List Nat} (hp : ∀ l ∈ p, l < 32) : orl 0 p = wb p := orl_wb hp
set_option maxHeartbeats 2000000 in
theorem c_try (hn : WfN ν) (hN : 1000 ≤ N) (ha : a < 8) (hz : z < 8) (h1 : 1 ≤ h) (hh : h ≤ 7) (h9 : 338 ≤ n9) {x0 : Int32} (hgo : ∀ l, l < ν.ln → go l = bt x0 l) : ∀ (D x s : Nat) (pre : List Nat) (pas : Int32) (I : gI), 9 ≤ D + pre.length → chn ν a pre x → (vis ν a pre).Nodup → pre.length ≤ h → (∀ l ∈ pre, go l = true) → (∀ i, i < 32 → bt pas i = decide (i ∈ vis ν a pre)) → x < 8 → NetC ν I → ApO n9 x0 z h s I → s ≤ 1000000 → Snd ν go a z h s → ∃ s' I', mX1_tryFirst N n9 D (nI a) (nI x) pas (orl 0 pre) (nI (mt ν pre)) I = some I' ∧ Fr [30, 32, n9] I I' ∧ ApO n9 x0 z h s' I' ∧ s' ≤ s ∧ Snd ν go a z h s' ∧ ∀ r, Ext ν go a z h x pre r → Cmp ν go a z h s' pre r := by
  have hln := hn.2.2.1
  have hnn := hn.2.1
  intro D
  induction D with
  | zero => intro x s pre pas I hD _ _ hl; omega
  | succ D ih =>
    intro x s pre pas I hD hch hnd hpl hpg hpas hx8 hI hO hs hS
    have hpln := chn_lt hch
    have hmt := mt_le hn hpln
    have hpd := way_nodup hch hnd
    have hw : orl 0 pre = wb pre := orl_w (fun l hl => by have := hpln l hl; omega)
    obtain ⟨o2, o3, o4, o5⟩ := hO
    have e2m : (2 : Int32) * nI (mt ν pre) = nI (2 * mt ν pre) := by rw [show (2 : Int32) = nI 2 from rfl, nI_mul]
    by_cases hlt : 2 * mt ν pre < s
    · by_cases hxz : x = z
      · -- at the end
        subst hxz
        obtain ⟨I2, r2, e2, f2, -⟩ := c_lm (N := N) (x := x0 &&& (wb pre ^^^ (-1))) (go := fun l => go l && !decide (l ∈ pre)) (a := a) (z := x) (h := h) hn hI ha hx8 hh (fun l hl => by
          rw [b_not (by omega), ← hgo l hl, b_wb (by omega) pre (fun l hl => by have := hpln l hl; omega)]) (by omega)
        obtain ⟨d, hd⟩ : ∃ d, d = Dm ν (fun l => go l && !decide (l ∈ pre)) x h a := ⟨_, rfl⟩
        have hdle : d ≤ 1000000 := by rw [hd]; exact Dm_le h
        rw [← hd] at e2
        have hIP : IsP ν go a x h pre := ⟨hch, hnd, hpl, hpg⟩
        obtain ⟨s', hs'⟩ : ∃ s', s' = if mt ν pre + d < s then mt ν pre + d else s := ⟨_, rfl⟩
        have n30 : n9 ∉ [30, 32] := by simp; omega
        refine ⟨s', upd2 I2 n9 5 (nI s'), ?_, (f2.mono (by simp)).u2 (by simp), ?_, by rw [hs']; split <;> omega, ?_, fun r hr q hq hdj hle => ?_⟩
        · rw [mX1_tryFirst, e2m, o5, if_pos (nI_lt hlt (by omega)), o3, if_pos rfl, hw, o2, o4, e2, ob_some]
          dsimp only
          rw [nI_add, hs']
          by_cases hc : mt ν pre + d < s
          · rw [if_pos hc, if_pos (nI_lt hc (by omega))]
          · rw [if_neg hc, if_neg (nI_nlt (by omega) (by omega))]
        · refine ⟨?_, ?_, ?_, u2_at⟩
          · rw [u2_ne (by omega), f2 n9 n30]; exact o2
          · rw [u2_ne (by omega), f2 n9 n30]; exact o3
          · rw [u2_ne (by omega), f2 n9 n30]; exact o4
        · rw [hs']
          by_cases hc : mt ν pre + d < s
          · rw [if_pos hc]
            right
            obtain ⟨q, hq, hm⟩ := Dm_way (ν := ν) (go := fun l => go l && !decide (l ∈ pre)) (z := x) (h := h) (a := a) hn (by omega)
            refine ⟨by omega, pre, q, ⟨hIP, ⟨hq.1, hq.2.1, hq.2.2.1, fun l hl => ?_⟩, fun l h3 h4 => ?_⟩, by omega⟩
            · have := hq.2.2.2 l hl
              simp at this
              exact this.1
            · have := hq.2.2.2 l h4
              simp at this
              exact this.2 h3
          · rw [if_neg hc]; exact hS
        · have hr0 : r = [] := way_ends hch (chn_app.mpr ⟨x, hch, hr.1⟩) hr.2.1
          subst hr0
          rw [List.append_nil] at hdj hle ⊢
          have hdq : d ≤ mt ν q := by
            rw [hd]
            refine Dm_walk hq.1 (fun l hl => ?_) hq.2.2.1
            have h3 := hq.2.2.2 l hl
            have h4 : l ∉ pre := fun h5 => hdj l h5 hl
            simp [h3, h4]
          rw [hs']
          split <;> omega
      · -- on
        have hbits : ∃ b, b < 65536 ∧ wb pre = nI b ∧ pcn b = pre.length := by
          obtain ⟨b, b1, b2, b3, -⟩ := wb_nat pre hpd (fun l hl => by have := hpln l hl; omega)
          exact ⟨b, b1, b2, b3⟩
        obtain ⟨b, b1, b2, b3⟩ := hbits
        have hnr : ∀ r, Ext ν go a z h x pre r → r ≠ [] := fun r hr e => by rw [e] at hr; exact hxz hr.1
        have hne : ¬ nI x = nI z := fun e => hxz ((nI_eq (by omega) (by omega)).mp e)
        have base : mX1_tryFirst N n9 (D + 1) (nI a) (nI x) pas (orl 0 pre) (nI (mt ν pre)) I = if nI pre.length < nI h then (Option.bind (mX1_tryFirst_76 N n9 (mX1_tryFirst N n9 D) (nI a) (nI x) pas (orl 0 pre) (nI (mt ν pre)) N 0 I) (fun I16 => some I16)) else (some I) := by
          rw [mX1_tryFirst, e2m, o5, if_pos (nI_lt hlt (by omega)), o3, if_neg hne, show mJ6_bitCount_0f7a4 (orl 0 pre) I = some (nI pre.length) by rw [hw, b2, c_bitsW b1, b3], ob_some, o4]
        by_cases hlh : pre.length < h
        · rw [if_pos (nI_lt hlh (by omega))] at base
          obtain ⟨I', hP, e⟩ := loopP (F := fun n K i => mX1_tryFirst_76 N n9 (mX1_tryFirst N n9 D) (nI a) (nI x) pas (orl 0 pre) (nI (mt ν pre)) n i K) (b := ν.ln) (out := id)
            (P := fun k K => Fr [30, 32, n9] I K ∧ ∃ s', ApO n9 x0 z h s' K ∧ s' ≤ s ∧ Snd ν go a z h s' ∧ ∀ l r, l < k → Ext ν go a z h x pre (l :: r) → Cmp ν go a z h s' pre (l :: r))
            (fun n K hP => by
              show mX1_tryFirst_76 N n9 (mX1_tryFirst N n9 D) (nI a) (nI x) pas (orl 0 pre) (nI (mt ν pre)) (n + 1) (nI ν.ln) K = some K
              rw [mX1_tryFirst_76, (hI.fr hP.1 (by simp; omega)).2.1, if_pos (nI_le (Nat.le_refl _) (by omega))])
            (fun n k K hk hP => by
              obtain ⟨f, s', hO', hs', hS', hC'⟩ := hP
              have hIK := hI.fr f (by simp; omega)
              have hL := hn.2.2.2.2.1 k hk
              obtain ⟨p2, p3, p4, p5⟩ := id hO'
              have e3 : K 3 k = nI (ν.L k 0) := hIK.2.2.2.1 k hk 0 (by decide)
              have e4 : K 4 k = nI (ν.L k 1) := hIK.2.2.2.1 k hk 1 (by decide)
              have e5 : K 5 k = nI (ν.L k 2) := hIK.2.2.2.1 k hk 2 (by decide)
              have skip : (∀ r, ¬ Ext ν go a z h x pre (k :: r)) → mX1_tryFirst_76 N n9 (mX1_tryFirst N n9 D) (nI a) (nI x) pas (orl 0 pre) (nI (mt ν pre)) (n + 1) (nI k) K = mX1_tryFirst_76 N n9 (mX1_tryFirst N n9 D) (nI a) (nI x) pas (orl 0 pre) (nI (mt ν pre)) n (nI (k + 1)) K → ∃ K', mX1_tryFirst_76 N n9 (mX1_tryFirst N n9 D) (nI a) (nI x) pas (orl 0 pre) (nI (mt ν pre)) (n + 1) (nI k) K = mX1_tryFirst_76 N n9 (mX1_tryFirst N n9 D) (nI a) (nI x) pas (orl 0 pre) (nI (mt ν pre)) n (nI (k + 1)) K' ∧ Fr [30, 32, n9] I K' ∧ ∃ s', ApO n9 x0 z h s' K' ∧ s' ≤ s ∧ Snd ν go a z h s' ∧ ∀ l r, l < k + 1 → Ext ν go a z h x pre (l :: r) → Cmp ν go a z h s' pre (l :: r) := by
                intro hno hd
                refine ⟨K, hd, f, s', hO', hs', hS', fun l r hl hE => ?_⟩
                by_cases el : l = k
                · rw [el] at hE; exact absurd hE (hno r)
                · exact hC' l r (by omega) hE
              have base2 : mX1_tryFirst_76 N n9 (mX1_tryFirst N n9 D) (nI a) (nI x) pas (orl 0 pre) (nI (mt ν pre)) (n + 1) (nI k) K = if go k = true ∧ ν.L k 0 = x then (if bt pas (ν.L k 1) = true then mX1_tryFirst_76 N n9 (mX1_tryFirst N n9 D) (nI a) (nI x) pas (orl 0 pre) (nI (mt ν pre)) n (nI (k + 1)) K else (Option.bind (mX1_tryFirst N n9 D (nI a) (nI (ν.L k 1)) (pas ||| ((1 : Int32) <<< (nI (ν.L k 1) &&& 31))) (orl 0 pre ||| ((1 : Int32) <<< (nI k &&& 31))) (nI (mt ν pre) + nI (ν.L k 2)) K) (fun I13 => mX1_tryFirst_76 N n9 (mX1_tryFirst N n9 D) (nI a) (nI x) pas (orl 0 pre) (nI (mt ν pre)) n (nI (k + 1)) I13))) else mX1_tryFirst_76 N n9 (mX1_tryFirst N n9 D) (nI a) (nI x) pas (orl 0 pre) (nI (mt ν pre)) n (nI (k + 1)) K := by
                rw [mX1_tryFirst_76, hIK.2.1, if_neg (nI_ge hk (by omega)), ck_n (by omega) (by decide), nI_clamp (by omega), e3, e4, e5, p2, nI_1]
                by_cases hg : go k = true
                · rw [if_neg (fun e => by rw [cb0 (by omega), ← hgo k hk, hg] at e; cases e)]
                  by_cases h0 : ν.L k 0 = x
                  · rw [if_pos (show nI (ν.L k 0) = nI x by rw [h0]), ob_some, if_neg (show ¬ (1 : Int32) = 0 by decide), if_pos (show go k = true ∧ ν.L k 0 = x from ⟨hg, h0⟩)]
                    by_cases hb : bt pas (ν.L k 1) = true
                    · rw [if_neg (fun e => by rw [cb0 (by omega), hb] at e; cases e), if_pos hb]
                    · rw [if_pos ((cb0 (by omega) _).mpr (by simpa using hb)), if_neg hb]
                  · rw [if_neg (fun e => h0 ((nI_eq (by omega) (by omega)).mp e)), ob_some, if_pos rfl, if_neg (show ¬ (go k = true ∧ ν.L k 0 = x) from fun h => h0 h.2)]
                · rw [if_pos ((cb0 (by omega) _).mpr (by rw [← hgo k hk]; simpa using hg)), ob_some, if_pos rfl, if_neg (show ¬ (go k = true ∧ ν.L k 0 = x) from fun h => hg h.1)]
              by_cases hc : go k = true ∧ ν.L k 0 = x
              · rw [if_pos hc] at base2
                by_cases hb : bt pas (ν.L k 1) = true
                · rw [if_pos hb] at base2
                  refine skip (fun r hE => ?_) base2
                  rw [hpas _ (by omega)] at hb
                  have hmem := of_decide_eq_true hb
                  have h3 := hE.2.1
                  have h4 : vis ν a (pre ++ k :: r) = vis ν a pre ++ (k :: r).map (fun l => ν.L l 1) := by simp [vis]
                  rw [h4, List.nodup_append] at h3
                  exact h3.2.2 _ hmem _ (List.mem_map.mpr ⟨k, List.mem_cons_self, rfl⟩) rfl
                · rw [if_neg hb] at base2
                  have hb' : bt pas (ν.L k 1) = false := by simpa using hb
                  rw [hpas _ (by omega)] at hb'
                  have hnm : ν.L k 1 ∉ vis ν a pre := of_decide_eq_false hb'
                  have hvs := vis_snoc (ν := ν) a pre k
                  have hmt' : mt ν (pre ++ [k]) = mt ν pre + ν.L k 2 := by rw [mt_app]; rfl
                  obtain ⟨s2, K2, e2, f2, hO2, hs2, hS2, hC2⟩ := ih (ν.L k 1) s' (pre ++ [k]) (pas ||| ((1 : Int32) <<< (nI (ν.L k 1) &&& 31))) K (by rw [List.length_append, List.length_singleton]; omega) (chn_snoc hch hk hc.2) (by
                    rw [hvs, List.nodup_append]
                    refine ⟨hnd, (by simp), fun y hy w hw' e => ?_⟩
                    rw [List.mem_singleton] at hw'
                    rw [e, hw'] at hy
                    exact hnm hy) (by rw [List.length_append, List.length_singleton]; omega) (fun l hl => by
                    rcases List.mem_append.mp hl with hl | hl
                    · exact hpg l hl
                    · rw [List.mem_singleton] at hl; rw [hl]; exact hc.1) (fun i hi => by
                    rw [b_or, hpas i hi, b_sh1 (by omega) hi, hvs]
                    by_cases h3 : i ∈ vis ν a pre <;> by_cases h4 : i = ν.L k 1 <;> simp [h3, h4]) (by omega) hIK hO' (by omega) hS'
                  refine ⟨K2, ?_, f.tr f2, s2, hO2, by omega, hS2, fun l r hl hE => ?_⟩
                  · show mX1_tryFirst_76 N n9 (mX1_tryFirst N n9 D) (nI a) (nI x) pas (orl 0 pre) (nI (mt ν pre)) (n + 1) (nI k) K = _
                    rw [base2, nI_add, ← hmt', ← orl_cons, e2, ob_some]
                  · by_cases el : l = k
                    · subst el
                      have ea : pre ++ l :: r = (pre ++ [l]) ++ r := by simp
                      have hE2 : Ext ν go a z h (ν.L l 1) (pre ++ [l]) r := ⟨hE.1.2.2, by rw [← ea]; exact hE.2.1, by rw [← ea]; exact hE.2.2.1, fun l' hl' => hE.2.2.2 l' (List.mem_cons_of_mem _ hl')⟩
                      have := hC2 r hE2
                      unfold Cmp at this ⊢
                      rw [ea]
                      exact this
                    · intro q hq hdj hle
                      have := hC' l r (by omega) hE q hq hdj hle
                      omega
              · rw [if_neg hc] at base2
                exact skip (fun r hE => hc ⟨hE.2.2.2 k List.mem_cons_self, hE.1.2.1⟩) base2)
            N 0 I (Nat.zero_le _) (by omega) ⟨Fr.rf, s, ⟨o2, o3, o4, o5⟩, Nat.le_refl _, hS, fun l r hl => by omega⟩
          obtain ⟨f, s', hO', hs', hS', hC'⟩ := hP
          refine ⟨s', I', ?_, f, hO', hs', hS', fun r hr => ?_⟩
          · rw [base, show mX1_tryFirst_76 N n9 (mX1_tryFirst N n9 D) (nI a) (nI x) pas (orl 0 pre) (nI (mt ν pre)) N 0 I = some I' from e, ob_some]
          · cases r with
            | nil => exact absurd rfl (hnr [] hr)
            | cons l r => exact hC' l r hr.1.1 hr
        · rw [if_neg (nI_nlt (by omega) (by omega))] at base
          refine ⟨s, I, base, Fr.rf, ⟨o2, o3, o4, o5⟩, Nat.le_refl _, hS, fun r hr => ?_⟩
          cases r with
          | nil => exact absurd rfl (hnr [] hr)
          | cons l r =>
            have := hr.2.2.1
            rw [List.length_append, List.length_cons] at this
            omega
    · refine ⟨s, I, ?_, Fr.rf, ⟨o2, o3, o4, o5⟩, Nat.le_refl _, hS, fun r hr q hq hdj hle => ?_⟩
      · rw [mX1_tryFirst, e2m, o5, if_neg (nI_nlt (by omega) (by omega))]
      · rw [mt_app] at hle ⊢
        omega
/-! the reference -/
theorem wb_disj {p q : List Nat} (hp : ∀ l ∈ p, l < 32) (hq : ∀ l ∈ q, l < 32) : wb p &&& wb q = 0 ↔ disj p q := by
  constructor
  · intro e l h1 h2
    have h3 : bt (wb p &&& wb q) l = bt 0 l := by rw [e]
    rw [b_and, b_wb (hp l h1) p hp, b_wb (hp l h1) q hq, b_0] at h3
    simp [h1, h2] at h3
  · intro hd
    apply b_ext
    intro i hi
    rw [b_and, b_wb hi p hp, b_wb hi q hq, b_0]
    by_cases h1 : i ∈ p
    · have h2 := hd i h1
      simp [h2]
    · simp [h1]
def Mn (S : Nat → Prop) (v2 : Int32) : Prop := (v2 = -1 ∧ ∀ v, ¬ S v) ∨ ∃ v, v ≤ 5000 ∧ v2 = nI v ∧ S v ∧ ∀ w, S w → v ≤ w
theorem Mn.congr {S T : Nat → Prop} {v2 : Int32} (h1 : Mn S v2) (e : ∀ v, S v ↔ T v) : Mn T v2 := by
  rcases h1 with ⟨h1, h2⟩ | ⟨v, h1, h2, h3, h4⟩
  · exact Or.inl ⟨h1, fun v hv => h2 v ((e v).mpr hv)⟩
  · exact Or.inr ⟨v, h1, h2, (e v).mp h3, fun w hw => h4 w ((e w).mpr hw)⟩
/-- pairs of ways, the first below i, or i with the second below j -/
def Prs (ν : Nt) (E : List (List Nat)) (i j v : Nat) : Prop := ∃ i' j', ∃ (h1 : i' < E.length) (h2 : j' < E.length), j' < i' ∧ (i' < i ∨ (i' = i ∧ j' < j)) ∧ disj E[i'] E[j'] ∧ v = mt ν E[i'] + mt ν E[j']
theorem m_ap37 {E : List (List Nat)} (hE : ∀ p ∈ E, (∀ l ∈ p, l < 16) ∧ mt ν p ≤ 2000) (hl : E.length < 2048) (hR : ∀ i, (hi : i < E.length) → I 323 i = wb E[i] ∧ I 324 i = nI (mt ν E[i])) (hN : 3000 ≤ N) {i : Nat} (hi : i < E.length) {v0 : Int32} (h0 : Mn (Prs ν E i 0) v0) : ∃ v1, mX11_apart_37 (nI i) I N v0 0 = some v1 ∧ Mn (Prs ν E i i) v1 := by
  obtain ⟨v1, hP, e⟩ := loopP (F := fun n v j => mX11_apart_37 (nI i) I n v j) (b := i) (out := id)
    (P := fun j v => Mn (Prs ν E i j) v)
    (fun n v _ => by
      show mX11_apart_37 (nI i) I (n + 1) v (nI i) = some v
      rw [mX11_apart_37, if_pos (nI_le (Nat.le_refl _) (by omega))])
    (fun n j v hj hP => by
      have hjE : j < E.length := by omega
      obtain ⟨a1, a2⟩ := hR i hi
      obtain ⟨c1, c2⟩ := hR j hjE
      obtain ⟨p1, p2⟩ := hE _ (List.getElem_mem hi)
      obtain ⟨q1, q2⟩ := hE _ (List.getElem_mem hjE)
      have hdj := wb_disj (p := E[i]) (q := E[j]) (fun l hl => by have := p1 l hl; omega) (fun l hl => by have := q1 l hl; omega)
      have eq1 : ∀ w, Prs ν E i (j + 1) w ↔ (Prs ν E i j w ∨ (disj E[i] E[j] ∧ w = mt ν E[i] + mt ν E[j])) := fun w => by
        constructor
        · rintro ⟨i', j', h1, h2, h3, h4, h5, h6⟩
          by_cases hx : i' = i ∧ j' = j
          · obtain ⟨rfl, rfl⟩ := hx
            exact Or.inr ⟨h5, h6⟩
          · exact Or.inl ⟨i', j', h1, h2, h3, by omega, h5, h6⟩
        · rintro (⟨i', j', h1, h2, h3, h4, h5, h6⟩ | ⟨h5, h6⟩)
          · exact ⟨i', j', h1, h2, h3, by omega, h5, h6⟩
          · exact ⟨i, j, hi, hjE, hj, Or.inr ⟨rfl, by omega⟩, h5, h6⟩
      show ∃ v', mX11_apart_37 (nI i) I (n + 1) v (nI j) = mX11_apart_37 (nI i) I n v' (nI (j + 1)) ∧ Mn (Prs ν E i (j + 1)) v'
      have base : mX11_apart_37 (nI i) I (n + 1) v (nI j) = (if (wb E[i] &&& wb E[j]) = 0 then (if v = (-1) then (mX11_apart_37 (nI i) I n (nI (mt ν E[i] + mt ν E[j])) (nI (j + 1))) else (if v ≤ nI (mt ν E[i] + mt ν E[j]) then (mX11_apart_37 (nI i) I n v (nI (j + 1))) else (mX11_apart_37 (nI i) I n (nI (mt ν E[i] + mt ν E[j])) (nI (j + 1))))) else (mX11_apart_37 (nI i) I n v (nI (j + 1)))) := by
        rw [mX11_apart_37, if_neg (nI_ge hj (by omega)), ck_n (by omega) (by decide), ck_n (by omega) (by decide), nI_clamp (by omega), nI_clamp (by omega), a1, a2, c1, c2, nI_add, nI_1]
      by_cases hd : disj E[i] E[j]
      · rw [if_pos (hdj.mpr hd)] at base
        rcases hP with ⟨h1, h2⟩ | ⟨w, h1, h2, h3, h4⟩
        · rw [if_pos h1] at base
          refine ⟨_, base, Or.inr ⟨_, by omega, rfl, (eq1 _).mpr (Or.inr ⟨hd, rfl⟩), fun u hu => ?_⟩⟩
          rcases (eq1 u).mp hu with hu | hu
          · exact absurd hu (h2 u)
          · omega
        · rw [if_neg (by rw [h2]; exact nI_m1 (by omega))] at base
          by_cases hle : w ≤ mt ν E[i] + mt ν E[j]
          · rw [if_pos (by rw [h2]; exact nI_le hle (by omega))] at base
            refine ⟨_, base, Or.inr ⟨w, h1, h2, (eq1 _).mpr (Or.inl h3), fun u hu => ?_⟩⟩
            rcases (eq1 u).mp hu with hu | hu
            · exact h4 u hu
            · omega
          · rw [if_neg (by rw [h2]; exact nI_ge (by omega) (by omega))] at base
            refine ⟨_, base, Or.inr ⟨_, by omega, rfl, (eq1 _).mpr (Or.inr ⟨hd, rfl⟩), fun u hu => ?_⟩⟩
            rcases (eq1 u).mp hu with hu | hu
            · have := h4 u hu; omega
            · omega
      · rw [if_neg (fun e => hd (hdj.mp e))] at base
        exact ⟨v, base, hP.congr (fun w => ⟨fun h => (eq1 w).mpr (Or.inl h), fun h => ((eq1 w).mp h).elim id (fun h => absurd h.1 hd)⟩)⟩)
    N 0 v0 (Nat.zero_le _) (by omega) h0
  exact ⟨v1, e, hP⟩
theorem m_ap26 {E : List (List Nat)} (hE : ∀ p ∈ E, (∀ l ∈ p, l < 16) ∧ mt ν p ≤ 2000) (hl : E.length < 2048) (h35 : I 310 35 = nI E.length) (hR : ∀ i, (hi : i < E.length) → I 323 i = wb E[i] ∧ I 324 i = nI (mt ν E[i])) (hN : 3000 ≤ N) : ∃ v1, mX11_apart_26 N I N (-1) 0 = some v1 ∧ Mn (Prs ν E E.length 0) v1 := by
  obtain ⟨v1, hP, e⟩ := loopP (F := fun n v i => mX11_apart_26 N I n v i) (b := E.length) (out := id)
    (P := fun i v => Mn (Prs ν E i 0) v)
    (fun n v _ => by
      show mX11_apart_26 N I (n + 1) v (nI E.length) = some v
      rw [mX11_apart_26, h35, if_pos (nI_le (Nat.le_refl _) (by omega))])
    (fun n i v hi hP => by
      obtain ⟨v1, e1, h1⟩ := m_ap37 (N := N) hE hl hR hN hi hP
      refine ⟨v1, ?_, h1.congr (fun w => ⟨?_, ?_⟩)⟩
      · show mX11_apart_26 N I (n + 1) v (nI i) = mX11_apart_26 N I n v1 (nI (i + 1))
        rw [mX11_apart_26, h35, if_neg (nI_ge hi (by omega)), e1, ob_some, nI_1]
      · rintro ⟨i', j', h1, h2, h3, h4, h5, h6⟩
        exact ⟨i', j', h1, h2, h3, by omega, h5, h6⟩
      · rintro ⟨i', j', h1, h2, h3, h4, h5, h6⟩
        exact ⟨i', j', h1, h2, h3, by omega, h5, h6⟩)
    N 0 (-1) (Nat.zero_le _) (by omega) (Or.inl ⟨rfl, fun v hv => by
      obtain ⟨i', j', h1, h2, h3, h4, h5, h6⟩ := hv
      omega⟩)
  exact ⟨v1, e, hP⟩
/-- both speak of the same pairs -/
theorem Prs_Pr2 (haz : a ≠ z) {v : Nat} (hv : Prs ν (En ν go z h a [a]) (En ν go z h a [a]).length 0 v) : ∃ p q, Pr2 ν go a z h p q ∧ mt ν p + mt ν q = v := by
  obtain ⟨i', j', h1, h2, h3, h4, h5, h6⟩ := hv
  exact ⟨_, _, ⟨(mem_all haz).mp (List.getElem_mem h1), (mem_all haz).mp (List.getElem_mem h2), h5⟩, h6.symm⟩
theorem Pr2_Prs (haz : a ≠ z) {p q : List Nat} (hp : Pr2 ν go a z h p q) : Prs ν (En ν go z h a [a]) (En ν go z h a [a]).length 0 (mt ν p + mt ν q) := by
  obtain ⟨i, hi, ei⟩ := List.getElem_of_mem ((mem_all haz).mpr hp.1)
  obtain ⟨j, hj, ej⟩ := List.getElem_of_mem ((mem_all haz).mpr hp.2.1)
  have hne : i ≠ j := fun e => by
    subst e
    have epq : p = q := by rw [← ei, ← ej]
    subst epq
    cases p with
    | nil => exact haz hp.1.1
    | cons l t => exact hp.2.2 l List.mem_cons_self List.mem_cons_self
  rcases Nat.lt_or_ge j i with hlt | hge
  · exact ⟨i, j, hi, hj, hlt, Or.inl hi, by rw [ei, ej]; exact hp.2.2, by rw [ei, ej]⟩
  · exact ⟨j, i, hj, hi, by omega, Or.inl hj, by rw [ei, ej]; exact hp.sym.2.2, by rw [ei, ej]; omega⟩
end Apart
section ApartS
variable {N : Nat}
set_option maxHeartbeats 1000000 in
theorem s_apart (hN : 100000000000 ≤ N) : St_apart N Inv := by
  intro c I J n9 a1 hc hInv h9
  obtain ⟨⟨ν, σ, ks, vs, hP⟩, mv⟩ := id hInv
  obtain ⟨hn, g, c1, m1, c2, m2, ac, sg, im, tp, ct⟩ := id hP
  have htn := hn.2.2.2.1
  have hnn := hn.2.1
  have hln := hn.2.2.1
  have hww := g.wf hn
  have s0 : ∀ {K : gI}, Sm K (upd2 K 310 0 0) := Sm.rf.u0
  rcases tun_ck hn a1 with ⟨t, ht, rfl, eC, eM⟩ | ⟨eC, eM⟩
  · have hT := hn.2.2.2.2.2 t ht
    have fn : Fr [n9] I (newI I n9) := fun c hc => by
      funext j
      show (if c = n9 then 0 else I c j) = I c j
      rw [if_neg (fun e => hc (by simp [e]))]
    have cn := c1.fr fn (by simp; omega)
    obtain ⟨x0, ex, hx⟩ := c_open (N := N) (u := 36) (σ := σ) hn cn (by rw [fn 36 (by simp; omega)]; exact c2.1) (by omega) ht
    obtain ⟨I6, hI6⟩ : ∃ I6, I6 = upd2 (upd2 (upd2 (upd2 (newI I n9) n9 5 1000000) n9 2 x0) n9 3 (nI (ν.T t 1))) n9 4 (nI (ν.T t 6)) := ⟨_, rfl⟩
    have f6 : Fr [n9] I I6 := by
      rw [hI6]
      exact (((fn.u2 (by simp)).u2 (by simp)).u2 (by simp)).u2 (by simp)
    have c6 := c1.fr f6 (by simp; omega)
    have O6 : ApO n9 x0 (ν.T t 1) (ν.T t 6) 1000000 I6 := by
      rw [hI6]
      refine ⟨?_, ?_, ?_, ?_⟩
      · rw [u2_ne (by omega), u2_ne (by omega), u2_at]
      · rw [u2_ne (by omega), u2_at]
      · rw [u2_at]
      · rw [u2_ne (by omega), u2_ne (by omega), u2_ne (by omega), u2_at]; rfl
    obtain ⟨s', I9, e9, f9, O9, hs9, S9, C9⟩ := c_try (N := N) (n9 := n9) (go := opn ν σ t) (a := ν.T t 0) (z := ν.T t 1) (h := ν.T t 6) (x0 := x0) hn (by omega) (by omega) (by omega) hT.2.2.2.2.2.2.2.2.1 hT.2.2.2.2.2.2.2.2.2 h9 (fun l hl => by rw [hx l (by omega)]; simp [hl]) 12 (ν.T t 0) 1000000 [] ((1 : Int32) <<< (nI (ν.T t 0) &&& 31)) I6 (by simp) rfl (by simp [vis]) (by simp) (fun l hl => by cases hl) (fun i hi => by rw [b_sh1 (by omega) hi]; simp [vis]) (by omega) c6 O6 (Nat.le_refl _) (Or.inl rfl)
    have f19 : Fr (n9 :: [30, 32]) I I9 := (f6.mono (by simp)).tr (f9.mono (by intro c hc; simp at hc ⊢; omega))
    have cls : mX10_apart N n9 (nI t) I J = some (.inl (if 1000000 ≤ s' then -1 else nI s'), I9, newJ J n9) := by
      unfold mX10_apart
      rw [eC I c1, lb_l, ex, ob_some, ck_n (by omega) (by decide), nm_n, nI_clamp (by omega), show newI I n9 9 t = nI (ν.T t 1) from cn.2.2.2.2 t ht 1 (by decide), show newI I n9 14 t = nI (ν.T t 6) from cn.2.2.2.2 t ht 6 (by decide), ← hI6, show I6 8 t = nI (ν.T t 0) from c6.2.2.2.2 t ht 0 (by decide)]
      unfold mX1_leastSum
      rw [show mX1_tryFirst N n9 12 (nI (ν.T t 0)) (nI (ν.T t 0)) ((1 : Int32) <<< (nI (ν.T t 0) &&& 31)) 0 0 I6 = some I9 from e9, ob_some, O9.2.2.2]
      by_cases hc' : 1000000 ≤ s'
      · rw [if_pos (show (1000000 : Int32) ≤ nI s' from nI_le (a := 1000000) hc' (by omega)), ob_some, if_pos hc']
      · rw [if_neg (show ¬ (1000000 : Int32) ≤ nI s' from nI_ge (b := 1000000) (by omega) (by omega)), ob_some, if_neg hc']
    have comp : ∀ p q, Pr2 ν (opn ν σ t) (ν.T t 0) (ν.T t 1) (ν.T t 6) p q → s' ≤ mt ν p + mt ν q := by
      have key : ∀ p q, Pr2 ν (opn ν σ t) (ν.T t 0) (ν.T t 1) (ν.T t 6) p q → mt ν p ≤ mt ν q → s' ≤ mt ν p + mt ν q := fun p q hpq hle => by
        have := C9 p ⟨hpq.1.1, hpq.1.2.1, hpq.1.2.2.1, hpq.1.2.2.2⟩ q hpq.2.1 hpq.2.2 hle
        exact this
      intro p q hpq
      rcases Nat.le_total (mt ν p) (mt ν q) with hle | hle
      · exact key p q hpq hle
      · have := key q p hpq.sym hle
        omega
    have hnt := ask_ref9 hP h9 f19 (by simp [sc])
    have hm9' : NetM ν (upd2 I9 310 0 0) := hnt.2.1.sm s0
    have hs9' : MS ν 317 0 σ (upd2 I9 310 0 0) := hnt.2.2.c (u2_c (by decide))
    obtain ⟨I8, f8, R8, h8⟩ := m_any (N := N) (b := 0) hn hm9' hs9' hww (by omega) hN ht
    have hE : ∀ p ∈ En ν (opn ν σ t) (ν.T t 1) (ν.T t 6) (ν.T t 0) [ν.T t 0], (∀ l ∈ p, l < 16) ∧ mt ν p ≤ 2000 := fun p hp => by
      have h1 := (mem_all hT.2.2.1).mp hp
      have h2 := chn_lt h1.1
      have h3 := mt_le hn h2
      have h4 := h1.2.2.1
      exact ⟨fun l hl => by have := h2 l hl; omega, by omega⟩
    have hlen := En_2048 (go := opn ν σ t) (z := ν.T t 1) (h := ν.T t 6) hn (show ν.T t 0 < 8 by omega)
    have h35 : I8 310 35 = nI (En ν (opn ν σ t) (ν.T t 1) (ν.T t 6) (ν.T t 0) [ν.T t 0]).length := by
      have := R8.1
      rwa [if_pos hlen] at this
    obtain ⟨v1, e1, M1⟩ := m_ap26 (N := N) (I := I8) hE hlen h35 (fun i hi => R8.2.1 i hi (by omega)) (by omega)
    have ref : mX11_apart N (nI t) I9 = some (v1, I8) := by
      unfold mX11_apart
      rw [eM _ hm9' u2_at, ob_some]
      dsimp only
      rw [if_neg (show ¬ (1 : Int32) = 0 by decide)]
      rcases h8 with ⟨p, -, e8, -⟩ | ⟨e8, -⟩
      · rw [show mX11_hasAny N 0 (nI t) (upd2 I9 310 0 0) = _ from e8, ob_some]
        dsimp only
        rw [e1, ob_some]
      · rw [show mX11_hasAny N 0 (nI t) (upd2 I9 310 0 0) = _ from e8, ob_some]
        dsimp only
        rw [e1, ob_some]
    have hv : (if 1000000 ≤ s' then (-1 : Int32) else nI s') = v1 := by
      rcases M1 with ⟨h1, h2⟩ | ⟨v, h1, h2, h3, h4⟩
      · have hno : ∀ p q, ¬ Pr2 ν (opn ν σ t) (ν.T t 0) (ν.T t 1) (ν.T t 6) p q := fun p q hpq => h2 _ (Pr2_Prs hT.2.2.1 hpq)
        rcases S9 with h5 | ⟨-, p, q, hpq, -⟩
        · rw [if_pos (by omega), h1]
        · exact absurd hpq (hno p q)
      · obtain ⟨p, q, hpq, epq⟩ := Prs_Pr2 hT.2.2.1 h3
        have h5 := comp p q hpq
        rcases S9 with h6 | ⟨h6, p', q', hpq', h7⟩
        · omega
        · have h10 := h4 _ (Pr2_Prs hT.2.2.1 hpq')
          rw [if_neg (by omega), h2]
          congr 1
          omega
    refine ⟨.inl (if 1000000 ≤ s' then -1 else nI s'), I9, newJ J n9, v1, I8, cls, (fun E h => by cases h), ref, by rw [f8.2 0 (by simp), u2_at]; rfl, (fun v h => by cases h; exact hv), ?_⟩
    refine ask_fin9 hP mv h9 f19 (by simp [sc]) ?_ (s0.tr (Sm.fb f8))
    exact c2.fr f19 (by simp; omega) (by simp; omega) (by simp; omega)
  · refine ⟨.inr xnN, I, J, 0, upd2 (upd2 I 310 0 0) 310 0 1, ?_, (fun E h => by cases h; rfl), ?_, u2_at, (fun v h => by cases h), hInv.sm s0.u0⟩
    · unfold mX10_apart
      rw [eC I c1, lb_r]
    · unfold mX11_apart
      rw [eM _ (m1.sm s0) u2_at, ob_some]
      dsimp only
      rw [if_pos rfl]
end ApartS
