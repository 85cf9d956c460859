/-! the same, but for the two bounds of what is seen -/
def Kp4 (c j : Nat) : Prop := (c = 173 → j ≤ 5) ∧ (c ≤ 14 ∨ (36 ≤ c ∧ c ≤ 38) ∨ c = 43 ∨ c = 49 ∨ (51 ≤ c ∧ c ≤ 309) ∨ (c = 310 ∧ (j = 2 ∨ j = 4 ∨ j = 13 ∨ j = 14 ∨ j = 15 ∨ j = 25 ∨ j = 45 ∨ j = 48 ∨ j = 49 ∨ j = 50)) ∨ (311 ≤ c ∧ c ≤ 313) ∨ c = 315 ∨ (c = 317 ∧ j < 82) ∨ c = 318 ∨ (333 ≤ c ∧ c ≤ 336))
def Sm4 (I I' : gI) : Prop := ∀ c j, Kp4 c j → I' c j = I c j
theorem kp4_kp {c j : Nat} (h : Kp4 c j) : Kp c j := by unfold Kp4 at h; unfold Kp; omega
section Same4
variable {ν : Nt} {σ : St} {I I' I'' : gI}
theorem Sm4.sm (h : Sm I I') : Sm4 I I' := fun c j k => h c j (kp4_kp k)
theorem Sm4.tr (h : Sm4 I I') (h2 : Sm4 I' I'') : Sm4 I I'' := fun c j k => (h2 c j k).trans (h c j k)
theorem NetC.sm4 (h : NetC ν I) (hs : Sm4 I I') : NetC ν I' := ⟨by rw [hs 2 0 (by unfold Kp4; omega)]; exact h.1, by rw [hs 2 1 (by unfold Kp4; omega)]; exact h.2.1, by rw [hs 2 2 (by unfold Kp4; omega)]; exact h.2.2.1, fun l hl j hj => by rw [hs _ _ (by unfold Kp4; omega)]; exact h.2.2.2.1 l hl j hj, fun t ht j hj => by rw [hs _ _ (by unfold Kp4; omega)]; exact h.2.2.2.2 t ht j hj⟩
theorem NetM.sm4 (h : NetM ν I) (hs : Sm4 I I') : NetM ν I' := ⟨by rw [hs 310 _ (by unfold Kp4; omega)]; exact h.1, by rw [hs 310 _ (by unfold Kp4; omega)]; exact h.2.1, by rw [hs 310 _ (by unfold Kp4; omega)]; exact h.2.2.1, fun l hl j hj => by rw [hs 313 _ (by unfold Kp4; omega)]; exact h.2.2.2.1 l hl j hj, fun t ht j hj => by rw [hs 315 _ (by unfold Kp4; omega)]; exact h.2.2.2.2 t ht j hj⟩
theorem CS.sm4 {u : Nat} (h : CS ν u σ I) (hs : Sm4 I I') (hu : u = 36 ∨ (51 ≤ u ∧ u ≤ 170) ∨ (174 ≤ u ∧ u ≤ 307)) : CS ν u σ I' := ⟨by rw [hs u 2 (by unfold Kp4; omega)]; exact h.1, fun t ht => by rw [hs (u + 1) t (by unfold Kp4; omega), hs (u + 2) t (by unfold Kp4; omega)]; exact h.2 t ht⟩
theorem MS.sm4 {r b : Nat} (hn : WfN ν) (hw : WfW ν σ) (h : MS ν r b σ I) (hs : Sm4 I I') (hr : (r = 317 ∧ b = 0) ∨ r = 318 ∨ (333 ≤ r ∧ r ≤ 336)) : MS ν r b σ I' := by
  have htn := hn.2.2.2.1
  refine ⟨by rw [hs r b (by unfold Kp4; omega)]; exact h.1, fun t ht => ?_⟩
  have hwt := (hw t ht).2.1
  exact ⟨by rw [hs r _ (by unfold Kp4; omega)]; exact (h.2 t ht).1, by rw [hs r _ (by unfold Kp4; omega)]; exact (h.2 t ht).2.1, fun k hk => by rw [hs r _ (by unfold Kp4; omega)]; exact (h.2 t ht).2.2 k hk⟩
theorem Acts.sm4 {A B r s : Nat} {ks : List St} (hn : WfN ν) (h : Acts ν A B r s ks I) (hs : Sm4 I I') (hA : (A = 51 ∧ B = 53 ∧ r = 318 ∧ s = 25) ∨ (A = 182 ∧ B = 184 ∧ r = 335 ∧ s = 49)) : Acts ν A B r s ks I' := by
  obtain ⟨h1, h2, ⟨f, f1, f2, f3, f4⟩, r1, r2⟩ := h
  refine ⟨h1, h2, ⟨f, f1, by rw [hs A 1 (by unfold Kp4; omega)]; exact f2, by rw [hs A 2 (by unfold Kp4; omega)]; exact f3, fun j hj => (f4 j hj).sm4 hs (by omega)⟩, by rw [hs 310 s (by unfold Kp4; omega)]; exact r1, fun j hj => ?_⟩
  exact MS.sm4 hn ((h2 _ (List.getElem_mem hj)).wf hn) (r2 j hj) hs (by omega)
theorem Sght.sm4 {A r s : Nat} {vs : List (Nat → Nat)} (h : Sght ν A r s vs I) (hs : Sm4 I I') (hA : (A = 173 ∧ r = 333 ∧ s = 45) ∨ (A = 304 ∧ r = 336 ∧ s = 50)) : Sght ν A r s vs I' := by
  obtain ⟨h1, h2, h3, h4, h5⟩ := h
  refine ⟨h1, h2, by rw [hs A 5 (by unfold Kp4; omega)]; exact h3, by rw [hs 310 s (by unfold Kp4; omega)]; exact h4, fun j hj k hk => ?_⟩
  rw [hs _ _ (by unfold Kp4; omega), hs r _ (by unfold Kp4; omega)]
  exact h5 j hj k hk
theorem Img.sm4 (hn : WfN ν) (h : Img ν I) (hs : Sm4 I I') : Img ν I' := by
  have e1 := hs 310 48 (by unfold Kp4; omega)
  have e2 := hs 0 16 (by unfold Kp4; omega)
  obtain ⟨h1, h2⟩ := h
  refine ⟨by rw [e1, e2]; exact h1, ?_⟩
  rw [e2]
  rcases h2 with h2 | ⟨h2, σ, ks, vs, g, c1, m1, a1, s1⟩
  · exact Or.inl h2
  · exact Or.inr ⟨h2, σ, ks, vs, g, c1.sm4 hs (by omega), MS.sm4 hn (g.wf hn) m1 hs (by omega), a1.sm4 hn hs (by omega), s1.sm4 hs (by omega)⟩
theorem Tp.sm4 (h : Tp I) (hs : Sm4 I I') : Tp I' := by
  obtain ⟨n, h1, h2, h3, h4⟩ := h
  refine ⟨n, h1, by rw [hs 0 1 (by unfold Kp4; omega)]; exact h2, by rw [hs 310 2 (by unfold Kp4; omega)]; exact h3, fun j hj => ?_⟩
  rw [hs 311 j (by unfold Kp4; omega), hs 1 j (by unfold Kp4; omega)]
  exact h4 j hj
theorem Ctr.sm4 (h : Ctr I) (hs : Sm4 I I') : Ctr I' := by
  unfold Ctr
  rw [hs 310 4 (by unfold Kp4; omega), hs 0 2 (by unfold Kp4; omega), hs 312 0 (by unfold Kp4; omega), hs 312 1 (by unfold Kp4; omega), hs 312 2 (by unfold Kp4; omega), hs 0 3 (by unfold Kp4; omega), hs 0 4 (by unfold Kp4; omega), hs 0 5 (by unfold Kp4; omega)]
  exact h
theorem Mv.sm4 {c : Nat} (h : Mv c I) (hs : Sm4 I I') : Mv c I' := by
  obtain ⟨m, h1, h2, h3⟩ := h
  refine ⟨m, h1, by rw [hs 43 8 (by unfold Kp4; omega)]; exact h2, fun s hs' => ?_⟩
  rw [hs 49 s (by unfold Kp4; omega)]
  exact h3 s hs'
theorem Pk.sm4 {ks : List St} {vs : List (Nat → Nat)} (h : Pk ν σ ks vs I) (hs : Sm4 I I') : Pk ν σ ks vs I' := by
  obtain ⟨hn, g, c1, m1, c2, m2, a, s, i, t, k⟩ := h
  exact ⟨hn, g, c1.sm4 hs, m1.sm4 hs, c2.sm4 hs (by omega), MS.sm4 hn (g.wf hn) m2 hs (by omega), a.sm4 hn hs (by omega), s.sm4 hs (by omega), i.sm4 hn hs, t.sm4 hs, k.sm4 hs⟩
theorem Inv.sm4 {c : Nat} (h : Inv c I) (hs : Sm4 I I') : Inv (c + 1) I' := by
  obtain ⟨⟨ν, σ, ks, vs, h⟩, m⟩ := h
  exact ⟨⟨ν, σ, ks, vs, h.sm4 hs⟩, (m.sm4 hs).up⟩
end Same4
section Oth0
variable {ν : Nt} {σ : St} {N l c : Nat} {I : gI} {go go' : Nat → Bool} {vs : List (Nat → Nat)}
def capS (ν : Nt) (l c : Nat) : Nt := (ν.1, fun l' j => if l' = l ∧ j = 3 then c else ν.L l' j, ν.T)
theorem capS_L {l' j : Nat} (hj : j ≠ 3) : (capS ν l c).L l' j = ν.L l' j := if_neg (fun h => hj h.2)
theorem capS_3 {l' : Nat} : (capS ν l c).L l' 3 = if l' = l then c else ν.L l' 3 := by
  show (if l' = l ∧ 3 = 3 then c else ν.L l' 3) = _
  by_cases h : l' = l
  · rw [if_pos ⟨h, rfl⟩, if_pos h]
  · rw [if_neg (fun e => h e.1), if_neg h]
theorem capS_wf (hn : WfN ν) (h1 : 1 ≤ c) (h2 : c ≤ 99) : WfN (capS ν l c) := by
  refine ⟨hn.1, hn.2.1, hn.2.2.1, hn.2.2.2.1, fun l' hl' => ?_, hn.2.2.2.2.2⟩
  have hL := hn.2.2.2.2.1 l' hl'
  rw [capS_L (j := 0) (by decide), capS_L (j := 1) (by decide), capS_L (j := 2) (by decide), capS_L (j := 4) (by decide), capS_3]
  refine ⟨hL.1, hL.2.1, hL.2.2.1, hL.2.2.2.1, hL.2.2.2.2.1, ?_, ?_, hL.2.2.2.2.2.2.2⟩
  · split
    · exact h1
    · exact hL.2.2.2.2.2.1
  · split
    · exact h2
    · exact hL.2.2.2.2.2.2.1
theorem rch_cap (go : Nat → Bool) (a : Nat) : ∀ (k n : Nat), rch (capS ν l c) go a k n = rch ν go a k n
  | 0, n => rfl
  | k + 1, n => by
    have e1 : rch (capS ν l c) go a (k + 1) n = (rch (capS ν l c) go a k n || (List.range ν.ln).any (fun i => (go i && decide ((capS ν l c).L i 1 = n)) && rch (capS ν l c) go a k ((capS ν l c).L i 0))) := rfl
    have e2 : rch ν go a (k + 1) n = (rch ν go a k n || (List.range ν.ln).any (fun i => (go i && decide (ν.L i 1 = n)) && rch ν go a k (ν.L i 0))) := rfl
    rw [e1, e2, rch_cap go a k n]
    congr 1
    congr 1
    funext i
    rw [capS_L (by decide), capS_L (by decide), rch_cap go a k]
theorem pl_cap {x l' p : Nat} : pl (capS ν l c) σ x l' p = if l' = l then pl ν σ x l p + ((c : Int) - (ν.L l 3 : Int)) else pl ν σ x l' p := by
  have e : pl (capS ν l c) σ x l' p = ((capS ν l c).L l' 3 : Int) - sm (fun i => if i ≠ x ∧ ν.T i 4 ≤ p ∧ l' ∈ σ.w i then (σ.bd i : Int) else 0) ν.tn := rfl
  rw [e, capS_3]
  unfold pl
  by_cases h : l' = l
  · rw [if_pos h, if_pos h, h]; omega
  · rw [if_neg h, if_neg h]
theorem rch_le (h : ∀ l, l < ν.ln → go l = true → go' l = true) {a : Nat} : ∀ {k n : Nat}, rch ν go a k n = true → rch ν go' a k n = true := by
  intro k n hr
  obtain ⟨p, h1, h2, h3⟩ := rch_sound hr
  exact rch_compl h1 (fun l hl => h l (chn_lt h1 l hl) (h2 l hl)) h3
theorem rch_cg (h : ∀ l, l < ν.ln → go l = go' l) {a k n : Nat} : rch ν go a k n = rch ν go' a k n := by
  apply Bool.eq_iff_iff.mpr
  exact ⟨rch_le (fun l hl e => by rw [← h l hl]; exact e), rch_le (fun l hl e => by rw [h l hl]; exact e)⟩
def seenA (ν : Nt) (σ : St) (v : Nat → Nat) : Bool := rch ν (goF ν σ (v 2) (v 3)) (v 0) 7 (v 1) == decide (v 4 = 1)
def allS (ν : Nt) (σ : St) (vs : List (Nat → Nat)) : Bool := vs.all (seenA ν σ)
def go1 (ν : Nt) (σ : St) (w p l l' : Nat) : Bool := goF ν σ w p l' && decide (l' ≠ l)
def go2 (ν : Nt) (σ : St) (w p l l' : Nat) : Bool := goF ν σ w p l' || (decide (l' = l) && bt σ.up l)
def ndd (ν : Nt) (σ : St) (w p l : Nat) : Int := (ν.L l 3 : Int) - pl ν σ 99 l p + (w : Int)
theorem seen_cap {w p a z : Nat} : rch (capS ν l c) (goF (capS ν l c) σ w p) a 7 z = if ndd ν σ w p l ≤ (c : Int) then rch ν (go2 ν σ w p l) a 7 z else rch ν (go1 ν σ w p l) a 7 z := by
  rw [rch_cap]
  unfold ndd
  by_cases h : (ν.L l 3 : Int) - pl ν σ 99 l p + (w : Int) ≤ (c : Int)
  · rw [if_pos h]
    refine rch_cg (fun l' hl' => ?_)
    unfold goF go2 goF
    rw [pl_cap]
    by_cases e : l' = l
    · subst e
      have h1 : (w : Int) ≤ pl ν σ 99 l' p + ((c : Int) - (ν.L l' 3 : Int)) := by omega
      rw [if_pos rfl, decide_eq_true h1]
      cases bt σ.up l' <;> simp
    · rw [if_neg e]; simp [e]
  · rw [if_neg h]
    refine rch_cg (fun l' hl' => ?_)
    unfold goF go1 goF
    rw [pl_cap]
    by_cases e : l' = l
    · subst e
      have h1 : ¬ (w : Int) ≤ pl ν σ 99 l' p + ((c : Int) - (ν.L l' 3 : Int)) := by omega
      rw [if_pos rfl, decide_eq_false h1]
      simp
    · rw [if_neg e]; simp [e]
/-- what is seen, in the reference -/
def SgM (vs : List (Nat → Nat)) (I : gI) : Prop := I 310 45 = nI vs.length ∧ ∀ j, (hj : j < vs.length) → ∀ k, k < 5 → I 333 (5 * j + k) = nI (vs[j] k)
theorem all_ix {f : (Nat → Nat) → Bool} : vs.all f = true ↔ ∀ j, (hj : j < vs.length) → f vs[j] = true := by
  rw [List.all_eq_true]
  exact ⟨fun h j hj => h _ (List.getElem_mem hj), fun h v hv => by obtain ⟨j, hj, e⟩ := List.getElem_of_mem hv; rw [← e]; exact h j hj⟩
theorem sn_eq {b : Bool} {n : Nat} (hn : n ≤ 1) : ((if b = true then (1 : Int32) else 0) = if nI n = 1 then 1 else 0) ↔ (b == decide (n = 1)) = true := by
  have hn' : n = 0 ∨ n = 1 := by omega
  rcases hn' with rfl | rfl <;> cases b <;> decide
set_option maxHeartbeats 1000000 in
theorem m_seen (hn : WfN ν) (hI : NetM ν I) (hs : MS ν 317 0 σ I) (hw : WfW ν σ) (hN : 100000000000 ≤ N) (hv8 : vs.length ≤ 8) (hv : ∀ v ∈ vs, SnOk ν v) (hg : SgM vs I) : ∃ I', mX11_isSeen N I = some (if allS ν σ vs = true then 1 else 0, I') ∧ FB I I' := by
  have hnn := hn.2.1
  have h9 := loopR (F := fun n K i => mX11_isSeen_2 N n i K) (b := vs.length) (out := fun K => Sum.inl K) (Qr := fun r => ∃ K, r = .inr (0, K) ∧ FB I K ∧ ¬ allS ν σ vs = true)
    (P := fun k K => FB I K ∧ ∀ j, (hj : j < vs.length) → j < k → seenA ν σ vs[j] = true)
    (fun n K hP => by
      show mX11_isSeen_2 N (n + 1) (nI vs.length) K = some (.inl K)
      rw [mX11_isSeen_2, hP.1.2 45 (by simp), hg.1, if_pos (nI_le (Nat.le_refl _) (by omega))])
    (fun n j K hj hP => by
      obtain ⟨f, hP⟩ := hP
      obtain ⟨o0, o1, o2, o3, o4, o5, o6⟩ := hv _ (List.getElem_mem hj)
      have g5 : ∀ k, k < 5 → K 333 (5 * j + k) = nI (vs[j] k) := fun k hk => by rw [f.1 333 (by simp)]; exact hg.2 j hj k hk
      obtain ⟨K', f', e'⟩ := m_fnd (N := N) (a := vs[j] 0) (z := vs[j] 1) (w := vs[j] 2) (p := vs[j] 3) hn (hI.fb f) (hs.c (f.1 317 (by simp)) : MS ν 317 0 σ K) hw hN o4 o5 o0 o1 o2
      have g4' : K' 333 (5 * j + 4) = nI (vs[j] 4) := by rw [f'.1 333 (by simp)]; exact g5 4 (by omega)
      have i1 : (5 : Int32) * nI j + 1 = nI (5 * j + 1) := n5 j 1
      have i2 : (5 : Int32) * nI j + 2 = nI (5 * j + 2) := n5 j 2
      have i3 : (5 : Int32) * nI j + 3 = nI (5 * j + 3) := n5 j 3
      have i4 : (5 : Int32) * nI j + 4 = nI (5 * j + 4) := n5 j 4
      have base : mX11_isSeen_2 N (n + 1) (nI j) K = if seenA ν σ vs[j] = true then mX11_isSeen_2 N n (nI (j + 1)) K' else some (.inr (0, K')) := by
        rw [mX11_isSeen_2, f.2 45 (by simp), hg.1, if_neg (nI_ge hj (by omega)), i1, i2, i3, i4, n5', ck_n (by omega) (by decide), ck_n (by omega) (by decide), ck_n (by omega) (by decide), ck_n (by omega) (by decide), nI_clamp (by omega), nI_clamp (by omega), nI_clamp (by omega), nI_clamp (by omega), show K 333 (5 * j) = nI (vs[j] 0) from g5 0 (by omega), g5 1 (by omega), g5 2 (by omega), g5 3 (by omega), e', ob_some]
        dsimp only
        rw [ck_n (by omega) (by decide), nI_clamp (by omega), g4', nI_1]
        have hb := sn_eq (b := rch ν (goF ν σ (vs[j] 2) (vs[j] 3)) (vs[j] 0) 7 (vs[j] 1)) o6
        by_cases h1 : nI (vs[j] 4) = 1
        · rw [if_pos h1] at hb
          rw [if_pos h1, ob_some]
          by_cases h2 : seenA ν σ vs[j] = true
          · rw [if_pos h2, if_pos (hb.mpr h2)]
          · rw [if_neg h2, if_neg (fun h => h2 (hb.mp h))]
        · rw [if_neg h1] at hb
          rw [if_neg h1, ob_some]
          by_cases h2 : seenA ν σ vs[j] = true
          · rw [if_pos h2, if_pos (hb.mpr h2)]
          · rw [if_neg h2, if_neg (fun h => h2 (hb.mp h))]
      by_cases h2 : seenA ν σ vs[j] = true
      · refine Or.inl ⟨K', by show mX11_isSeen_2 N (n + 1) (nI j) K = _; rw [base, if_pos h2], f.tr f', fun j' hj' hlt => ?_⟩
        by_cases e : j' = j
        · subst e; exact h2
        · exact hP j' hj' (by omega)
      · exact Or.inr ⟨_, by show mX11_isSeen_2 N (n + 1) (nI j) K = _; rw [base, if_neg h2], K', rfl, f.tr f', fun h => h2 (all_ix.mp h j hj)⟩)
    N 0 I (Nat.zero_le _) (by omega) ⟨FB.rf, fun j _ h => by omega⟩
  unfold mX11_isSeen
  rcases h9 with ⟨K, ⟨f, hP⟩, e⟩ | ⟨r, e, K, rfl, f, h2⟩
  · exact ⟨K, by rw [show mX11_isSeen_2 N N 0 I = _ from e, lb_l, if_pos (show allS ν σ vs = true from all_ix.mpr (fun j hj => hP j hj hj))], f⟩
  · exact ⟨K, by rw [show mX11_isSeen_2 N N 0 I = _ from e, lb_r, if_neg h2], f⟩
/-! the class -/
def SgC (vs : List (Nat → Nat)) (I : gI) : Prop := I 173 5 = nI vs.length ∧ ∀ j, (hj : j < vs.length) → ∀ k, k < 5 → I (174 + k) j = nI (vs[j] k)
theorem c_we (hn : WfN ν) (hI : NetC ν I) (hs : CS ν 36 σ I) (hw : WfW ν σ) (hN : 100 ≤ N) (hv8 : vs.length ≤ 8) (hv : ∀ v ∈ vs, SnOk ν v) (hg : SgC vs I) {j : Nat} (hj : j < vs.length) : ∃ x, mX7_wideEnough N 36 (nI j) I = some x ∧ ∀ i, i < 32 → bt x i = (decide (i < ν.ln) && goF ν σ (vs[j] 2) (vs[j] 3) i) := by
  have hln := hn.2.2.1
  obtain ⟨o0, o1, o2, o3, o4, o5, o6⟩ := hv _ (List.getElem_mem hj)
  have g6 : I 176 j = nI (vs[j] 2) := hg.2 j hj 2 (by omega)
  have g7 : I 177 j = nI (vs[j] 3) := hg.2 j hj 3 (by omega)
  obtain ⟨v', hP, e⟩ := loopP (F := fun n v i => mX7_wideEnough_5 N 36 (nI j) I n v i) (b := ν.ln) (out := id)
    (P := fun k v => v = bm (fun l => decide (((vs[j] 2 : Nat) : Int) ≤ pl ν σ 99 l (vs[j] 3))) k)
    (fun n v _ => by
      show mX7_wideEnough_5 N 36 (nI j) I (n + 1) v (nI ν.ln) = some v
      rw [mX7_wideEnough_5, hI.2.1, if_pos (nI_le (Nat.le_refl _) (by omega))])
    (fun n k v hk hP => by
      have hb := pl_sml (x := 99) (p := vs[j] 3) hn hw hk
      refine ⟨_, ?_, rfl⟩
      show mX7_wideEnough_5 N 36 (nI j) I (n + 1) v (nI k) = mX7_wideEnough_5 N 36 (nI j) I n _ (nI (k + 1))
      rw [mX7_wideEnough_5, hI.2.1, if_neg (nI_ge hk (by omega)), ck_n (by omega) (by decide), nI_clamp (by omega), g6, g7, c_pool hn hI hs hw hN (Or.inr ⟨rfl, show 9 ≤ 99 by omega⟩) hk o5, ob_some, ← zI_nat, nI_1, bm, hP]
      by_cases h : ((vs[j] 2 : Nat) : Int) ≤ pl ν σ 99 k (vs[j] 3)
      · rw [if_neg (fun h' => by rw [zI_lt ⟨by omega, by omega⟩ ⟨by omega, by omega⟩] at h'; omega), if_pos (decide_eq_true h)]
      · rw [if_pos (by rw [zI_lt ⟨by omega, by omega⟩ ⟨by omega, by omega⟩]; omega), if_neg (by simp [h])])
    N 0 0 (Nat.zero_le _) (by omega) rfl
  refine ⟨v' &&& σ.up, ?_, fun i hi => ?_⟩
  · unfold mX7_wideEnough
    rw [show mX7_wideEnough_5 N 36 (nI j) I N 0 0 = some v' from e, ob_some, show I 36 2 = σ.up from hs.1]
  · rw [b_and, hP, b_bm hi _ _ (by omega)]
    unfold goF
    cases bt σ.up i <;> simp
theorem sn_eqC {b : Bool} {n : Nat} (hn : n ≤ 1) : ((if b = true then (1 : Int32) else 0) = nI n) ↔ (b == decide (n = 1)) = true := by
  have hn' : n = 0 ∨ n = 1 := by omega
  rcases hn' with rfl | rfl <;> cases b <;> decide
theorem c_so (hn : WfN ν) (hI : NetC ν I) (hs : CS ν 36 σ I) (hw : WfW ν σ) (hN : 100 ≤ N) (hv8 : vs.length ≤ 8) (hv : ∀ v ∈ vs, SnOk ν v) (hg : SgC vs I) : mX7_isSo N 36 I = some (if allS ν σ vs = true then 1 else 0) := by
  have hnn := hn.2.1
  have hln := hn.2.2.1
  have h9 := loopR (F := fun n (_ : Unit) i => mX7_isSo_2 N 36 I n i) (b := vs.length) (out := fun _ => Sum.inl ()) (Qr := fun r => r = .inr 0 ∧ ¬ allS ν σ vs = true)
    (P := fun k _ => ∀ j, (hj : j < vs.length) → j < k → seenA ν σ vs[j] = true)
    (fun n _ _ => by
      show mX7_isSo_2 N 36 I (n + 1) (nI vs.length) = _
      rw [mX7_isSo_2, hg.1, if_pos (nI_le (Nat.le_refl _) (by omega))])
    (fun n j _ hj hP => by
      obtain ⟨o0, o1, o2, o3, o4, o5, o6⟩ := hv _ (List.getElem_mem hj)
      obtain ⟨x, ex, hx⟩ := c_we (N := N) hn hI hs hw hN hv8 hv hg hj
      have r := c_reach (N := N) (x := x) (go := goF ν σ (vs[j] 2) (vs[j] 3)) (a := vs[j] 0) (z := vs[j] 1) (h := 7) hn hI (by omega) (by omega) (by omega) (fun l hl => by rw [hx l (by omega)]; simp [hl]) hN
      have hb := sn_eqC (b := rch ν (goF ν σ (vs[j] 2) (vs[j] 3)) (vs[j] 0) 7 (vs[j] 1)) o6
      have base : mX7_isSo_2 N 36 I (n + 1) (nI j) = if seenA ν σ vs[j] = true then mX7_isSo_2 N 36 I n (nI (j + 1)) else some (.inr 0) := by
        rw [mX7_isSo_2, hg.1, if_neg (nI_ge hj (by omega)), ex, ob_some, ck_n (by omega) (by decide), nI_clamp (by omega), show I 174 j = nI (vs[j] 0) from hg.2 j hj 0 (by omega), show I 175 j = nI (vs[j] 1) from hg.2 j hj 1 (by omega), show (7 : Int32) = nI 7 from rfl, r, ob_some, show I 178 j = nI (vs[j] 4) from hg.2 j hj 4 (by omega), nI_1]
        by_cases h2 : seenA ν σ vs[j] = true
        · rw [if_pos h2, if_pos (hb.mpr h2)]
        · rw [if_neg h2, if_neg (fun h => h2 (hb.mp h))]
      by_cases h2 : seenA ν σ vs[j] = true
      · refine Or.inl ⟨(), by show mX7_isSo_2 N 36 I (n + 1) (nI j) = _; rw [base, if_pos h2], fun j' hj' hlt => ?_⟩
        by_cases e : j' = j
        · subst e; exact h2
        · exact hP j' hj' (by omega)
      · exact Or.inr ⟨_, by show mX7_isSo_2 N 36 I (n + 1) (nI j) = _; rw [base, if_neg h2], rfl, fun h => h2 (all_ix.mp h j hj)⟩)
    N 0 () (Nat.zero_le _) (by omega) (fun j _ h => by omega)
  unfold mX7_isSo
  rcases h9 with ⟨-, hP, e⟩ | ⟨r, e, rfl, h2⟩
  · rw [show mX7_isSo_2 N 36 I N 0 = _ from e, lb_l, if_pos (show allS ν σ vs = true from all_ix.mpr (fun j hj => hP j hj hj))]
  · rw [show mX7_isSo_2 N 36 I N 0 = _ from e, lb_r, if_neg h2]
end Oth0
