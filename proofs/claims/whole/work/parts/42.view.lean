/-! what the heap holds: the network, the states -/
abbrev Nt : Type := (Nat × Nat × Nat) × (Nat → Nat → Nat) × (Nat → Nat → Nat)
abbrev Nt.nn (ν : Nt) : Nat := ν.1.1
abbrev Nt.ln (ν : Nt) : Nat := ν.1.2.1
abbrev Nt.tn (ν : Nt) : Nat := ν.1.2.2
abbrev Nt.L (ν : Nt) : Nat → Nat → Nat := ν.2.1
abbrev Nt.T (ν : Nt) : Nat → Nat → Nat := ν.2.2
/-- ways (rows of links; none: it doesn't stand), bandwidths, which links are up -/
abbrev St : Type := (Nat → List Nat) × (Nat → Nat) × Int32
abbrev St.w (σ : St) : Nat → List Nat := σ.1
abbrev St.bd (σ : St) : Nat → Nat := σ.2.1
abbrev St.up (σ : St) : Int32 := σ.2.2
def NetC (ν : Nt) (I : gI) : Prop := I 2 0 = nI ν.nn ∧ I 2 1 = nI ν.ln ∧ I 2 2 = nI ν.tn ∧ (∀ l, l < ν.ln → ∀ j, j < 5 → I (3 + j) l = nI (ν.L l j)) ∧ (∀ t, t < ν.tn → ∀ j, j < 7 → I (8 + j) t = nI (ν.T t j))
def NetM (ν : Nt) (I : gI) : Prop := I 310 13 = nI ν.nn ∧ I 310 14 = nI ν.ln ∧ I 310 15 = nI ν.tn ∧ (∀ l, l < ν.ln → ∀ j, j < 5 → I 313 (5 * l + j) = nI (ν.L l j)) ∧ (∀ t, t < ν.tn → ∀ j, j < 7 → I 315 (7 * t + j) = nI (ν.T t j))
def WfN (ν : Nt) : Prop := 2 ≤ ν.nn ∧ ν.nn ≤ 8 ∧ ν.ln ≤ 16 ∧ ν.tn ≤ 9 ∧
  (∀ l, l < ν.ln → ν.L l 0 < ν.nn ∧ ν.L l 1 < ν.nn ∧ ν.L l 0 ≠ ν.L l 1 ∧ 1 ≤ ν.L l 2 ∧ ν.L l 2 ≤ 99 ∧ 1 ≤ ν.L l 3 ∧ ν.L l 3 ≤ 99 ∧ ν.L l 4 ≤ 15) ∧
  (∀ t, t < ν.tn → ν.T t 0 < ν.nn ∧ ν.T t 1 < ν.nn ∧ ν.T t 0 ≠ ν.T t 1 ∧ 1 ≤ ν.T t 2 ∧ ν.T t 2 ≤ 99 ∧ ν.T t 3 ≤ 7 ∧ ν.T t 4 ≤ ν.T t 3 ∧ ν.T t 5 ≤ 15 ∧ 1 ≤ ν.T t 6 ∧ ν.T t 6 ≤ 7)
def CS (ν : Nt) (u : Nat) (σ : St) (I : gI) : Prop := I u 2 = σ.up ∧ ∀ t, t < ν.tn → I (u + 1) t = wb (σ.w t) ∧ I (u + 2) t = nI (σ.bd t)
def MS (ν : Nt) (r b : Nat) (σ : St) (I : gI) : Prop := I r b = σ.up ∧ ∀ t, t < ν.tn → I r (b + 1 + t) = nI (σ.bd t) ∧ I r (b + 10 + t) = (if σ.w t = [] then -1 else nI (σ.w t).length) ∧ ∀ k, (hk : k < (σ.w t).length) → I r (b + 19 + 7 * t + k) = nI (σ.w t)[k]
/-- a row of links from a node to a node -/
def chn (ν : Nt) : Nat → List Nat → Nat → Prop
  | a, [], z => a = z
  | a, l :: p, z => l < ν.ln ∧ ν.L l 0 = a ∧ chn ν (ν.L l 1) p z
def vis (ν : Nt) (a : Nat) (p : List Nat) : List Nat := a :: p.map (fun l => ν.L l 1)
/-- a way over links that may be gone, of h links at most -/
def IsP (ν : Nt) (go : Nat → Bool) (a z h : Nat) (p : List Nat) : Prop := chn ν a p z ∧ (vis ν a p).Nodup ∧ p.length ≤ h ∧ ∀ l ∈ p, go l = true
/-- links that a tunnel may go over at all -/
def opn (ν : Nt) (σ : St) (t l : Nat) : Bool := bt σ.up l && decide (ν.L l 4 &&& ν.T t 5 = 0)
/-- the pool, one left out -/
def pl (ν : Nt) (σ : St) (x l p : Nat) : Int := (ν.L l 3 : Int) - sm (fun i => if i ≠ x ∧ ν.T i 4 ≤ p ∧ l ∈ σ.w i then (σ.bd i : Int) else 0) ν.tn
/-- ways have links alone, 7 at most; bandwidths are small -/
def WfW (ν : Nt) (σ : St) : Prop := ∀ t, t < ν.tn → σ.bd t ≤ 99 ∧ (σ.w t).length ≤ 7 ∧ ∀ l ∈ σ.w t, l < ν.ln
theorem chn_lt {ν : Nt} : ∀ {p : List Nat} {a z : Nat}, chn ν a p z → ∀ l ∈ p, l < ν.ln
  | [], _, _, _, l, hl => by cases hl
  | m :: p, a, z, h, l, hl => by
    rcases List.mem_cons.mp hl with rfl | hl
    · exact h.1
    · exact chn_lt h.2.2 l hl
section View
variable {ν : Nt} {σ : St} {I : gI} {N u : Nat}
theorem wb_t (hn : WfN ν) (hw : WfW ν σ) {t l : Nat} (ht : t < ν.tn) (hl : l < 32) : bt (wb (σ.w t)) l = decide (l ∈ σ.w t) := b_wb hl _ (fun x hx => by have := (hw t ht).2.2 x hx; have := hn.2.2.1; omega)
theorem pl_sml (hn : WfN ν) (hw : WfW ν σ) {x l p : Nat} (hl : l < ν.ln) : -891 ≤ pl ν σ x l p ∧ pl ν σ x l p ≤ 99 := by
  unfold pl
  have h1 := sm_bd (n := ν.tn) (B := 99) (f := fun i => if i ≠ x ∧ ν.T i 4 ≤ p ∧ l ∈ σ.w i then (σ.bd i : Int) else 0) (fun k hk => by
    have := (hw k hk).1
    show 0 ≤ (if k ≠ x ∧ ν.T k 4 ≤ p ∧ l ∈ σ.w k then (σ.bd k : Int) else 0) ∧ (if k ≠ x ∧ ν.T k 4 ≤ p ∧ l ∈ σ.w k then (σ.bd k : Int) else 0) ≤ (99 : Nat)
    split <;> omega)
  have h2 := (hn.2.2.2.2.1 l hl)
  have h3 := hn.2.2.2.1
  have h4 : ν.tn * 99 ≤ 9 * 99 := Nat.mul_le_mul_right 99 h3
  omega
/-- who is left out: a number, or nobody -/
def xAs (a : Int32) (x : Nat) : Prop := (a = nI x ∧ x < 9) ∨ (a = -1 ∧ 9 ≤ x)
theorem xAs_eq {a : Int32} {x i : Nat} (h : xAs a x) (hi : i < 9) : nI i = a ↔ i = x := by
  rcases h with ⟨rfl, h⟩ | ⟨rfl, h⟩
  · exact nI_eq (by omega) (by omega)
  · exact ⟨fun e => absurd e (nI_m1 (by omega)), fun e => by omega⟩
set_option maxHeartbeats 1000000 in
theorem c_pool (hn : WfN ν) (hI : NetC ν I) (hs : CS ν u σ I) (hw : WfW ν σ) (hN : 100 ≤ N) {a : Int32} {x l p : Nat} (hx : xAs a x) (hl : l < ν.ln) (hp : p ≤ 7) : mX2_poolWithout N u a (nI l) (nI p) I = some (zI (pl ν σ x l p)) := by
  have hln := hn.2.2.1
  have htn := hn.2.2.2.1
  unfold mX2_poolWithout
  rw [ck_n (by omega) (by decide), nI_clamp (by omega), show I 6 l = nI (ν.L l 3) from hI.2.2.2.1 l hl 3 (by decide)]
  obtain ⟨s', hP, e⟩ := loopP (F := fun n s i => mX2_poolWithout_14 u a (nI l) (nI p) I n s i) (b := ν.tn) (out := id)
    (P := fun k s => s = zI ((ν.L l 3 : Int) - sm (fun i => if i ≠ x ∧ ν.T i 4 ≤ p ∧ l ∈ σ.w i then (σ.bd i : Int) else 0) k))
    (fun n s _ => by
      show mX2_poolWithout_14 u a (nI l) (nI p) I (n + 1) s (nI ν.tn) = some s
      rw [mX2_poolWithout_14, hI.2.2.1, if_pos (nI_le (Nat.le_refl _) (by omega))])
    (fun n k s hk hP => by
      have hkt := hs.2 k hk
      have hT := (hn.2.2.2.2.2 k hk)
      refine ⟨_, ?_, rfl⟩
      show mX2_poolWithout_14 u a (nI l) (nI p) I (n + 1) s (nI k) = mX2_poolWithout_14 u a (nI l) (nI p) I n _ (nI (k + 1))
      rw [mX2_poolWithout_14, hI.2.2.1, if_neg (nI_ge hk (by omega)), nI_1, ck_n (by omega) (by decide), nI_clamp (by omega), show I 12 k = nI (ν.T k 4) from hI.2.2.2.2 k hk 4 (by decide), hkt.1, hkt.2, sm]
      subst hP
      by_cases h1 : k = x
      · rw [if_pos ((xAs_eq hx (by omega)).mpr h1), if_neg (fun h => h.1 h1), Int.add_zero]
      · rw [if_neg (fun h => h1 ((xAs_eq hx (by omega)).mp h))]
        by_cases h2 : ν.T k 4 ≤ p
        · rw [if_neg (nI_nlt h2 (by omega))]
          by_cases h3 : l ∈ σ.w k
          · rw [if_neg (fun h => by rw [cb0 (by omega), wb_t hn hw hk (by omega)] at h; simp [h3] at h), if_pos ⟨h1, h2, h3⟩, zI_subn]
            congr 2
            omega
          · rw [if_pos (by rw [cb0 (by omega), wb_t hn hw hk (by omega)]; simp [h3]), if_neg (fun h => h3 h.2.2), Int.add_zero]
        · rw [if_pos (nI_lt (by omega) (by omega)), if_neg (fun h => h2 h.2.1), Int.add_zero])
    N 0 (nI (ν.L l 3)) (Nat.zero_le _) (by omega) (by show nI _ = zI _; rw [sm, Int.sub_zero, zI_nat])
  have e' : mX2_poolWithout_14 u a (nI l) (nI p) I N (nI (ν.L l 3)) 0 = some s' := e
  rw [e', ob_some, hP]
  rfl
end View
