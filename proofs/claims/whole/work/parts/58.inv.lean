/-! what stands between calls -/
def Ring (ν : Nt) (A B : Nat) (ks : List St) (I : gI) : Prop := ∃ f, f < 40 ∧ I A 1 = nI f ∧ I A 2 = nI ks.length ∧ ∀ j, (hj : j < ks.length) → CS ν (B + 3 * ((f + j) % 40)) ks[j] I
def Rows (ν : Nt) (r s : Nat) (ks : List St) (I : gI) : Prop := I 310 s = nI ks.length ∧ ∀ j, (hj : j < ks.length) → MS ν r (82 * j) ks[j] I
def Acts (ν : Nt) (A B r s : Nat) (ks : List St) (I : gI) : Prop := ks.length ≤ 40 ∧ (∀ k ∈ ks, Gd ν k) ∧ Ring ν A B ks I ∧ Rows ν r s ks I
def SnOk (ν : Nt) (v : Nat → Nat) : Prop := v 0 < ν.nn ∧ v 1 < ν.nn ∧ v 0 ≠ v 1 ∧ 1 ≤ v 2 ∧ v 2 ≤ 99 ∧ v 3 ≤ 7 ∧ v 4 ≤ 1
def Sght (ν : Nt) (A r s : Nat) (vs : List (Nat → Nat)) (I : gI) : Prop := vs.length ≤ 8 ∧ (∀ v ∈ vs, SnOk ν v) ∧ I A 5 = nI vs.length ∧ I 310 s = nI vs.length ∧ ∀ j, (hj : j < vs.length) → ∀ k, k < 5 → I (A + 1 + k) j = nI (vs[j] k) ∧ I r (5 * j + k) = nI (vs[j] k)
def Img (ν : Nt) (I : gI) : Prop := I 310 48 = I 0 16 ∧ (I 0 16 = 0 ∨ (I 0 16 = 1 ∧ ∃ σ ks vs, Gd ν σ ∧ CS ν 179 σ I ∧ MS ν 334 0 σ I ∧ Acts ν 182 184 335 49 ks I ∧ Sght ν 304 336 50 vs I))
def Tp (I : gI) : Prop := ∃ n, n ≤ 700 ∧ I 0 1 = nI n ∧ I 310 2 = nI n ∧ ∀ j, j < n → ∃ b, b < 256 ∧ I 311 j = nI b ∧ I 1 j = (nI b).toInt8.toInt32
def Ctr (I : gI) : Prop := I 310 4 = I 0 2 ∧ I 312 0 = I 0 3 ∧ I 312 1 = I 0 4 ∧ I 312 2 = I 0 5
def Mv (c : Nat) (I : gI) : Prop := ∃ m, m ≤ 100000 * c ∧ I 43 8 = nI m ∧ ∀ s, s < 512 → ∃ k, k ≤ m ∧ I 49 s = nI k
def Pk (ν : Nt) (σ : St) (ks : List St) (vs : List (Nat → Nat)) (I : gI) : Prop := WfN ν ∧ Gd ν σ ∧ NetC ν I ∧ NetM ν I ∧ CS ν 36 σ I ∧ MS ν 317 0 σ I ∧ Acts ν 51 53 318 25 ks I ∧ Sght ν 173 333 45 vs I ∧ Img ν I ∧ Tp I ∧ Ctr I
def Inv (c : Nat) (I : gI) : Prop := (∃ ν σ ks vs, Pk ν σ ks vs I) ∧ Mv c I
/-- places that the invariant speaks of -/
def Kp (c j : Nat) : Prop := c ≤ 14 ∨ (36 ≤ c ∧ c ≤ 38) ∨ c = 43 ∨ c = 49 ∨ (51 ≤ c ∧ c ≤ 309) ∨ (c = 310 ∧ (j = 2 ∨ j = 4 ∨ j = 13 ∨ j = 14 ∨ j = 15 ∨ j = 25 ∨ j = 45 ∨ j = 48 ∨ j = 49 ∨ j = 50)) ∨ (311 ≤ c ∧ c ≤ 313) ∨ c = 315 ∨ (c = 317 ∧ j < 82) ∨ c = 318 ∨ (333 ≤ c ∧ c ≤ 336)
def Sm (I I' : gI) : Prop := ∀ c j, Kp c j → I' c j = I c j
/-- cells that it doesn't speak of -/
def sc (c : Nat) : Prop := (15 ≤ c ∧ c ≤ 35) ∨ (39 ≤ c ∧ c ≤ 42) ∨ (44 ≤ c ∧ c ≤ 48) ∨ c = 50 ∨ c = 314 ∨ c = 316 ∨ (319 ≤ c ∧ c ≤ 332) ∨ 337 ≤ c
theorem sc_kp {c j : Nat} (h : sc c) : ¬ Kp c j := by unfold sc at h; unfold Kp; omega
section Same
variable {ν : Nt} {σ : St} {I I' I'' : gI}
theorem Sm.rf : Sm I I := fun _ _ _ => rfl
theorem Sm.tr (h : Sm I I') (h2 : Sm I' I'') : Sm I I'' := fun c j k => (h2 c j k).trans (h c j k)
theorem Sm.fr {X : List Nat} (h : Fr X I I') (hX : ∀ c ∈ X, sc c) : Sm I I' := fun c j k => by rw [h c (fun hc => sc_kp (hX c hc) k)]
theorem Sm.u {a i : Nat} {v : Int32} (h : Sm I I') (hk : ¬ Kp a i) : Sm I (upd2 I' a i v) := fun c j k => by
  rw [u2_ne (fun e => hk (by rw [← e.1, ← e.2]; exact k))]
  exact h c j k
theorem Sm.u0 {v : Int32} (h : Sm I I') : Sm I (upd2 I' 310 0 v) := h.u (by unfold Kp; omega)
theorem Sm.fb (h : FB I I') : Sm I I' := fun c j k => by
  by_cases e : c = 310
  · subst e; exact h.2 j (by unfold Kp at k; simp; omega)
  · rw [h.1 c (by unfold Kp at k; simp; omega)]
theorem Sm.fs (h : FS 82 I I') : Sm I I' := fun c j k => by
  by_cases e : c = 310
  · subst e; exact h.2.1 j (by unfold Kp at k; simp; omega)
  · by_cases e2 : c = 317
    · subst e2; exact h.2.2 j (by unfold Kp at k; omega)
    · rw [h.1 c (by unfold Kp at k; simp; omega)]
theorem NetC.sm (h : NetC ν I) (hs : Sm I I') : NetC ν I' := ⟨by rw [hs 2 0 (by unfold Kp; omega)]; exact h.1, by rw [hs 2 1 (by unfold Kp; omega)]; exact h.2.1, by rw [hs 2 2 (by unfold Kp; omega)]; exact h.2.2.1, fun l hl j hj => by rw [hs _ _ (by unfold Kp; omega)]; exact h.2.2.2.1 l hl j hj, fun t ht j hj => by rw [hs _ _ (by unfold Kp; omega)]; exact h.2.2.2.2 t ht j hj⟩
theorem NetM.sm (h : NetM ν I) (hs : Sm I I') : NetM ν I' := ⟨by rw [hs 310 _ (by unfold Kp; omega)]; exact h.1, by rw [hs 310 _ (by unfold Kp; omega)]; exact h.2.1, by rw [hs 310 _ (by unfold Kp; omega)]; exact h.2.2.1, fun l hl j hj => by rw [hs 313 _ (by unfold Kp; omega)]; exact h.2.2.2.1 l hl j hj, fun t ht j hj => by rw [hs 315 _ (by unfold Kp; omega)]; exact h.2.2.2.2 t ht j hj⟩
theorem CS.sm {u : Nat} (h : CS ν u σ I) (hs : Sm I I') (hu : u = 36 ∨ (51 ≤ u ∧ u ≤ 307)) : CS ν u σ I' := ⟨by rw [hs u 2 (by unfold Kp; omega)]; exact h.1, fun t ht => by rw [hs (u + 1) t (by unfold Kp; omega), hs (u + 2) t (by unfold Kp; omega)]; exact h.2 t ht⟩
theorem MS.sm {r b : Nat} (hn : WfN ν) (hw : WfW ν σ) (h : MS ν r b σ I) (hs : Sm I I') (hr : (r = 317 ∧ b = 0) ∨ r = 318 ∨ (333 ≤ r ∧ r ≤ 336)) : MS ν r b σ I' := by
  have htn := hn.2.2.2.1
  refine ⟨by rw [hs r b (by unfold Kp; omega)]; exact h.1, fun t ht => ?_⟩
  have hwt := (hw t ht).2.1
  exact ⟨by rw [hs r _ (by unfold Kp; omega)]; exact (h.2 t ht).1, by rw [hs r _ (by unfold Kp; omega)]; exact (h.2 t ht).2.1, fun k hk => by rw [hs r _ (by unfold Kp; omega)]; exact (h.2 t ht).2.2 k hk⟩
theorem Acts.sm {A B r s : Nat} {ks : List St} (hn : WfN ν) (h : Acts ν A B r s ks I) (hs : Sm I I') (hA : (A = 51 ∧ B = 53 ∧ r = 318 ∧ s = 25) ∨ (A = 182 ∧ B = 184 ∧ r = 335 ∧ s = 49)) : Acts ν A B r s ks I' := by
  obtain ⟨h1, h2, ⟨f, f1, f2, f3, f4⟩, r1, r2⟩ := h
  refine ⟨h1, h2, ⟨f, f1, by rw [hs A 1 (by unfold Kp; omega)]; exact f2, by rw [hs A 2 (by unfold Kp; omega)]; exact f3, fun j hj => (f4 j hj).sm hs (by omega)⟩, by rw [hs 310 s (by unfold Kp; omega)]; exact r1, fun j hj => ?_⟩
  exact MS.sm hn ((h2 _ (List.getElem_mem hj)).wf hn) (r2 j hj) hs (by omega)
theorem Sght.sm {A r s : Nat} {vs : List (Nat → Nat)} (h : Sght ν A r s vs I) (hs : Sm I I') (hA : (A = 173 ∧ r = 333 ∧ s = 45) ∨ (A = 304 ∧ r = 336 ∧ s = 50)) : Sght ν A r s vs I' := by
  obtain ⟨h1, h2, h3, h4, h5⟩ := h
  refine ⟨h1, h2, by rw [hs A 5 (by unfold Kp; omega)]; exact h3, by rw [hs 310 s (by unfold Kp; omega)]; exact h4, fun j hj k hk => ?_⟩
  rw [hs _ _ (by unfold Kp; omega), hs r _ (by unfold Kp; omega)]
  exact h5 j hj k hk
theorem Img.sm (hn : WfN ν) (h : Img ν I) (hs : Sm I I') : Img ν I' := by
  have e1 := hs 310 48 (by unfold Kp; omega)
  have e2 := hs 0 16 (by unfold Kp; omega)
  obtain ⟨h1, h2⟩ := h
  refine ⟨by rw [e1, e2]; exact h1, ?_⟩
  rw [e2]
  rcases h2 with h2 | ⟨h2, σ, ks, vs, g, c1, m1, a1, s1⟩
  · exact Or.inl h2
  · exact Or.inr ⟨h2, σ, ks, vs, g, c1.sm hs (by omega), MS.sm hn (g.wf hn) m1 hs (by omega), a1.sm hn hs (by omega), s1.sm hs (by omega)⟩
theorem Tp.sm (h : Tp I) (hs : Sm I I') : Tp I' := by
  obtain ⟨n, h1, h2, h3, h4⟩ := h
  refine ⟨n, h1, by rw [hs 0 1 (by unfold Kp; omega)]; exact h2, by rw [hs 310 2 (by unfold Kp; omega)]; exact h3, fun j hj => ?_⟩
  rw [hs 311 j (by unfold Kp; omega), hs 1 j (by unfold Kp; omega)]
  exact h4 j hj
theorem Ctr.sm (h : Ctr I) (hs : Sm I I') : Ctr I' := by
  unfold Ctr
  rw [hs 310 4 (by unfold Kp; omega), hs 0 2 (by unfold Kp; omega), hs 312 0 (by unfold Kp; omega), hs 312 1 (by unfold Kp; omega), hs 312 2 (by unfold Kp; omega), hs 0 3 (by unfold Kp; omega), hs 0 4 (by unfold Kp; omega), hs 0 5 (by unfold Kp; omega)]
  exact h
theorem Mv.sm {c : Nat} (h : Mv c I) (hs : Sm I I') : Mv c I' := by
  obtain ⟨m, h1, h2, h3⟩ := h
  refine ⟨m, h1, by rw [hs 43 8 (by unfold Kp; omega)]; exact h2, fun s hs' => ?_⟩
  rw [hs 49 s (by unfold Kp; omega)]
  exact h3 s hs'
theorem Mv.up {c : Nat} (h : Mv c I) : Mv (c + 1) I := by
  obtain ⟨m, h1, h2, h3⟩ := h
  exact ⟨m, by omega, h2, h3⟩
theorem Pk.sm {ks : List St} {vs : List (Nat → Nat)} (h : Pk ν σ ks vs I) (hs : Sm I I') : Pk ν σ ks vs I' := by
  obtain ⟨hn, g, c1, m1, c2, m2, a, s, i, t, k⟩ := h
  exact ⟨hn, g, c1.sm hs, m1.sm hs, c2.sm hs (by omega), MS.sm hn (g.wf hn) m2 hs (by omega), a.sm hn hs (by omega), s.sm hs (by omega), i.sm hn hs, t.sm hs, k.sm hs⟩
theorem Inv.sm {c : Nat} (h : Inv c I) (hs : Sm I I') : Inv (c + 1) I' := by
  obtain ⟨⟨ν, σ, ks, vs, h⟩, m⟩ := h
  exact ⟨⟨ν, σ, ks, vs, h.sm hs⟩, (m.sm hs).up⟩
theorem Inv.up {c : Nat} (h : Inv c I) : Inv (c + 1) I := h.sm Sm.rf
theorem Inv_0 : Inv 0 I9 := by
  refine ⟨⟨((2, 0, 0), fun _ _ => 0, fun _ _ => 0), (fun _ => [], fun _ => 0, 0), [], [], ?_⟩, 0, by omega, rfl, fun s hs => ⟨0, by omega, rfl⟩⟩
  refine ⟨⟨by decide, by decide, by decide, by decide, fun l hl => absurd hl (Nat.not_lt_zero _), fun l hl => absurd hl (Nat.not_lt_zero _)⟩, ⟨fun t ht => absurd ht (Nat.not_lt_zero _), fun t ht => absurd ht (Nat.not_lt_zero _)⟩, ⟨rfl, rfl, rfl, fun l hl => absurd hl (Nat.not_lt_zero _), fun l hl => absurd hl (Nat.not_lt_zero _)⟩, ⟨rfl, rfl, rfl, fun l hl => absurd hl (Nat.not_lt_zero _), fun l hl => absurd hl (Nat.not_lt_zero _)⟩, ⟨rfl, fun l hl => absurd hl (Nat.not_lt_zero _)⟩, ⟨rfl, fun l hl => absurd hl (Nat.not_lt_zero _)⟩, ⟨by simp, fun k hk => (by cases hk), ⟨0, by omega, rfl, rfl, fun j hj => (by cases hj)⟩, rfl, fun j hj => (by cases hj)⟩, ⟨by simp, fun k hk => (by cases hk), rfl, rfl, fun j hj => (by cases hj)⟩, ⟨rfl, Or.inl rfl⟩, ⟨0, by omega, rfl, rfl, fun j hj => by omega⟩, rfl, rfl, rfl, rfl⟩
end Same
/-! checks of numbers -/
theorem i_nn (a : Int32) : a < 0 ∨ ∃ n, n < 2147483648 ∧ a = nI n := by
  by_cases h : a < 0
  · exact Or.inl h
  · right
    rw [Int32.lt_iff_toInt_lt, show (0 : Int32).toInt = 0 from rfl] at h
    have h2 := Int32.toInt_lt a
    refine ⟨a.toInt.toNat, by omega, ?_⟩
    rw [← zI_nat, Int.toNat_of_nonneg (by omega)]
    exact (zI_toInt' a).symm
theorem m_right1 {I : gI} {k : Int32} (h : I 310 0 = 0) : mX11_right 1 k I = some (1, I) := by
  unfold mX11_right
  rw [if_pos h, if_neg (by decide), ob_some, if_pos h]
theorem m_right0 {I : gI} {k : Int32} (h : I 310 0 = 0) (hk : ¬ k = 0) : mX11_right 0 k I = some (0, upd2 I 310 0 k) := by
  unfold mX11_right
  rw [if_pos h, if_pos rfl, ob_some, if_neg (by rw [u2_at]; exact hk)]
section Checks
variable {ν : Nt}
theorem tun_ck (hn : WfN ν) (a : Int32) : (∃ t, t < ν.tn ∧ a = nI t ∧ (∀ I, NetC ν I → mX10_checkTunnel a I = some (.inl ())) ∧ ∀ I, NetM ν I → I 310 0 = 0 → mX11_isTunnel a I = some (1, I)) ∨ ((∀ I, NetC ν I → mX10_checkTunnel a I = some (.inr xnN)) ∧ ∀ I, NetM ν I → I 310 0 = 0 → mX11_isTunnel a I = some (0, upd2 I 310 0 1)) := by
  have htn := hn.2.2.2.1
  rcases i_nn a with h | ⟨n, h1, rfl⟩
  · right
    refine ⟨fun I hI => by unfold mX10_checkTunnel; rw [if_pos h], fun I hI h0 => ?_⟩
    unfold mX11_isTunnel
    rw [if_pos h, ob_some, m_right0 h0 (by decide)]
    rfl
  · by_cases h2 : n < ν.tn
    · left
      refine ⟨n, h2, rfl, fun I hI => ?_, fun I hI h0 => ?_⟩
      · unfold mX10_checkTunnel
        rw [if_neg (nI_pos (by omega)), hI.2.2.1, if_pos (nI_lt h2 (by omega))]
      · unfold mX11_isTunnel
        rw [if_neg (nI_pos (by omega)), hI.2.2.1, if_neg (nI_ge h2 (by omega)), ob_some, m_right1 h0]
        rfl
    · right
      refine ⟨fun I hI => ?_, fun I hI h0 => ?_⟩
      · unfold mX10_checkTunnel
        rw [if_neg (nI_pos (by omega)), hI.2.2.1, if_neg (nI_nlt (by omega) (by omega))]
      · unfold mX11_isTunnel
        rw [if_neg (nI_pos (by omega)), hI.2.2.1, if_pos (nI_le (by omega) (by omega)), ob_some, m_right0 h0 (by decide)]
        rfl
theorem lnk_ck (hn : WfN ν) (a : Int32) : (∃ t, t < ν.ln ∧ a = nI t ∧ (∀ I, NetC ν I → mX10_checkLink a I = some (.inl ())) ∧ ∀ I, NetM ν I → I 310 0 = 0 → mX11_isLink a I = some (1, I)) ∨ ((∀ I, NetC ν I → mX10_checkLink a I = some (.inr xnN)) ∧ ∀ I, NetM ν I → I 310 0 = 0 → mX11_isLink a I = some (0, upd2 I 310 0 1)) := by
  have htn := hn.2.2.1
  rcases i_nn a with h | ⟨n, h1, rfl⟩
  · right
    refine ⟨fun I hI => by unfold mX10_checkLink; rw [if_pos h], fun I hI h0 => ?_⟩
    unfold mX11_isLink
    rw [if_pos h, ob_some, m_right0 h0 (by decide)]
    rfl
  · by_cases h2 : n < ν.ln
    · left
      refine ⟨n, h2, rfl, fun I hI => ?_, fun I hI h0 => ?_⟩
      · unfold mX10_checkLink
        rw [if_neg (nI_pos (by omega)), hI.2.1, if_pos (nI_lt h2 (by omega))]
      · unfold mX11_isLink
        rw [if_neg (nI_pos (by omega)), hI.2.1, if_neg (nI_ge h2 (by omega)), ob_some, m_right1 h0]
        rfl
    · right
      refine ⟨fun I hI => ?_, fun I hI h0 => ?_⟩
      · unfold mX10_checkLink
        rw [if_neg (nI_pos (by omega)), hI.2.1, if_neg (nI_nlt (by omega) (by omega))]
      · unfold mX11_isLink
        rw [if_neg (nI_pos (by omega)), hI.2.1, if_pos (nI_le (by omega) (by omega)), ob_some, m_right0 h0 (by decide)]
        rfl
/-- within small bounds -/
theorem wi_ck {lo hi : Nat} (hh : hi < 1000) (hl : lo ≤ hi) (a : Int32) : (∃ n, lo ≤ n ∧ n ≤ hi ∧ a = nI n ∧ ∀ I, mX11_within a (nI lo) (nI hi) I = some 1) ∨ ((∀ n, lo ≤ n → n ≤ hi → a ≠ nI n) ∧ ∀ I, mX11_within a (nI lo) (nI hi) I = some 0) := by
  rcases i_nn a with h | ⟨n, h1, rfl⟩
  · right
    refine ⟨fun n _ h2 e => ?_, fun I => ?_⟩
    · rw [e] at h; exact nI_pos (by omega) h
    · unfold mX11_within
      rw [if_pos]
      rw [Int32.lt_iff_toInt_lt] at h ⊢
      rw [nI_toInt (by omega)]
      have : (0 : Int32).toInt = 0 := rfl
      omega
  · by_cases h2 : n < lo
    · right
      refine ⟨fun m h3 h4 e => ?_, fun I => by unfold mX11_within; rw [if_pos (nI_lt h2 (by omega))]⟩
      rw [nI_eq (by omega) (by omega)] at e
      omega
    · by_cases h3 : hi < n
      · right
        refine ⟨fun m h3 h4 e => ?_, fun I => by unfold mX11_within; rw [if_neg (nI_nlt (by omega) (by omega)), if_pos (nI_lt h3 (by omega))]⟩
        rw [nI_eq (by omega) (by omega)] at e
        omega
      · exact Or.inl ⟨n, by omega, by omega, rfl, fun I => by unfold mX11_within; rw [if_neg (nI_nlt (by omega) (by omega)), if_neg (nI_nlt (by omega) (by omega))]⟩
end Checks
