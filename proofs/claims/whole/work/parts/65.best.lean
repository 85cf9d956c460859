/-! best -/
section BestS
variable {ν : Nt} {σ : St} {I : gI} {N : Nat}
theorem c_bnow (hn : WfN ν) (g : Gd ν σ) (c1 : NetC ν I) (c2 : CS ν 36 σ I) (hN : 100 ≤ N) {t : Nat} (ht : t < ν.tn) : ∃ I9 q, mX2_bestNow N 36 (nI t) I = some (wb q, I9) ∧ Fr [30, 31, 32, 33] I I9 ∧ bst ν σ t (σ.bd t) (ν.T t 3) q := by
  have htn := hn.2.2.2.1
  have hT := hn.2.2.2.2.2 t ht
  obtain ⟨I9, q, eq, fq, hq⟩ := c_bw (N := N) (u := 36) (t := t) (bd := σ.bd t) (p := ν.T t 3) hn c1 c2 (by omega) (g.wf hn) hN ht (g.1 t ht).2.1 hT.2.2.2.2.2.1
  refine ⟨I9, q, ?_, fq, hq⟩
  unfold mX2_bestNow
  rw [ck_n (by omega) (by decide), nI_clamp (by omega), (c2.2 t ht).2, show I 11 t = nI (ν.T t 3) from c1.2.2.2.2 t ht 3 (by decide), eq, ob_some]
theorem bst_isP {t bd p : Nat} {q : List Nat} (h : bst ν σ t bd p q) : q = [] ∨ IsP ν (fit ν σ t bd p) (ν.T t 0) (ν.T t 1) (ν.T t 6) q := by
  rcases h with ⟨e, -⟩ | h
  · exact Or.inl e
  · exact Or.inr h.1
end BestS
section Steps5
variable {N : Nat}
theorem s_best (hN : 100000000000 ≤ N) : St_best N Inv := by
  intro c I J a1 a2 hc hInv
  obtain ⟨⟨ν, σ, ks, vs, hP⟩, mv⟩ := id hInv
  obtain ⟨hn, g, c1, m1, c2, m2, ac, sg, im, tp, ct⟩ := id hP
  have htn := hn.2.2.2.1
  have hww := g.wf hn
  have s0 : ∀ {K : gI}, Sm K (upd2 K 310 0 0) := Sm.rf.u0
  rcases tun_ck hn a1 with ⟨t, ht, rfl, eC, eM⟩ | ⟨eC, eM⟩
  · have hT := hn.2.2.2.2.2 t ht
    have baseM : ∀ (K : gI) x, NetM ν K → (if a2 < 0 then (some 0) else (some 1) : Option (Int32)) = some x → mX11_best N (nI t) a2 K = Option.bind (mX11_right x 1 (upd2 K 310 0 0)) (fun (r7, I8) => if r7 = 0 then (some (0, I8)) else (ck (1 + nI t) 164 (Option.bind (mX11_hasBest N 0 (nI t) (I8 317 (1 + nI t).toNatClampNeg) I8) (fun (r12, I13) => if r12 = 0 then (some ((-1), I13)) else (if (I13 310 32) ≤ a2 then (some ((-1), I13)) else (ck a2 7 (some (I13 322 a2.toNatClampNeg, I13)))))))) := by
      intro K x hm hx
      unfold mX11_best
      rw [eM _ (hm.sm s0) u2_at, ob_some]
      dsimp only
      rw [if_neg (by decide), hx, ob_some]
    rcases i_nn a2 with h | ⟨k, hk, rfl⟩
    · refine ⟨.inr xnN, I, 0, upd2 (upd2 I 310 0 0) 310 0 1, ?_, (fun E h => by cases h; rfl), ?_, u2_at, (fun v h => by cases h), hInv.sm s0.u0⟩
      · unfold mX10_best mX10_checkPlace
        rw [eC I c1, lb_l, if_neg (fun e => by
          rw [Int32.le_iff_toInt_le] at e
          rw [Int32.lt_iff_toInt_lt] at h
          omega), lb_r]
      · rw [baseM I 0 m1 (by rw [if_pos h]), m_right0 u2_at (by decide), ob_some]
        dsimp only
        rw [if_pos rfl]
    · obtain ⟨I6, q, eB, fq, hq⟩ := c_bnow (N := N) hn g c1 c2 (by omega) ht
      have c6 := c1.fr fq (by simp)
      have sm6 : Sm I I6 := Sm.fr fq (by simp [sc])
      have hP6 := hP.sm sm6
      have ecl : mX10_best N (nI t) (nI k) I = some (.inl (if h : k < q.length then nI q[k] else -1), I6) := by
        unfold mX10_best mX10_checkPlace
        rw [eC I c1, lb_l, if_pos (show (0 : Int32) ≤ nI k from nI_le (Nat.zero_le k) (by omega)), lb_l, eB, ob_some]
        dsimp only
        rw [ck_n (by omega) (by decide), nI_clamp (by omega), show I6 8 t = nI (ν.T t 0) from c6.2.2.2.2 t ht 0 (by decide), c_at hn c6 (by omega) hT.1 hT.2.1 hT.2.2.2.2.2.2.2.2.2 hk (bst_isP hq), ob_some]
      have m6 := hP6.2.2.2.1
      have m6' : MS ν 317 0 σ (upd2 I6 310 0 0) := hP6.2.2.2.2.2.1.c (u2_c (by decide))
      have q1 : (upd2 I6 310 0 0) 317 (1 + t) = nI (σ.bd t) := by have := (m6'.2 t ht).1; rwa [Nat.zero_add] at this
      obtain ⟨I13, q', hq', fB, hres⟩ := m_hasBest (N := N) (b := 0) hn (m6.sm s0) m6' hww (by omega) hN ht (g.1 t ht).2.1
      obtain rfl := bst_one hn ht hq hq'
      refine ⟨_, I6, if h : k < q.length then nI q[k] else -1, I13, ecl, (fun E h => by cases h), ?_, ?_, (fun v h => by cases h; rfl), hInv.sm (sm6.tr (s0.tr (Sm.fb fB)))⟩
      · rw [baseM I6 1 m6 (by rw [if_neg (nI_pos (by omega))]), m_right1 u2_at, ob_some]
        dsimp only
        rw [if_neg (by decide), ix1', ck_n (by omega) (by decide), nI_clamp (by omega), q1]
        rcases hres with ⟨hne, e, k1, k2⟩ | ⟨rfl, e, -⟩
        · have h7 : q.length ≤ 7 := by
            rcases bst_isP hq with e | e
            · exact absurd e hne
            · have := e.2.2.1; omega
          rw [show mX11_hasBest N 0 (nI t) (nI (σ.bd t)) (upd2 I6 310 0 0) = some (1, I13) from e, ob_some]
          dsimp only
          rw [if_neg (by decide)]
          by_cases h : k < q.length
          · rw [if_neg (show ¬ I13 310 32 ≤ nI k by rw [k1]; exact nI_ge h (by omega)), ck_n (by omega) (by decide), nI_clamp (by omega), k2 k h, dif_pos h]
          · rw [if_pos (show I13 310 32 ≤ nI k by rw [k1]; exact nI_le (by omega) (by omega)), dif_neg h]
        · rw [show mX11_hasBest N 0 (nI t) (nI (σ.bd t)) (upd2 I6 310 0 0) = some (0, I13) from e, ob_some]
          dsimp only
          rw [if_pos rfl, dif_neg (by simp)]
      · rw [fB.2 0 (by simp), u2_at]; rfl
  · refine ⟨.inr xnN, I, 0, upd2 (upd2 I 310 0 0) 310 0 1, ?_, (fun E h => by cases h; rfl), ?_, u2_at, (fun v h => by cases h), hInv.sm s0.u0⟩
    · unfold mX10_best
      rw [eC I c1, lb_r]
    · unfold mX11_best
      rw [eM _ (m1.sm s0) u2_at, ob_some]
      dsimp only
      rw [if_pos rfl]
end Steps5
