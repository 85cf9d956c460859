/-! questions that try something in the state and put it back -/
section Ask
variable {ν : Nt} {σ σ' : St} {ks : List St} {vs : List (Nat → Nat)} {N c : Nat} {I I1 I2 : gI}
theorem ask_fin (h : Pk ν σ ks vs I) (mv : Mv c I) {X : List Nat} (f : Fr X I I1) (hX : ∀ c ∈ X, c < 310 ∧ (sc c ∨ (36 ≤ c ∧ c ≤ 38))) (cs : CS ν 36 σ I1) (s2 : Sm I1 I2) : Inv (c + 1) I2 := by
  obtain ⟨hn, g, c1, m1, c2, m2, ac, sg, im, tp, ct⟩ := id h
  have hi : ∀ c, 310 ≤ c → I1 c = I c := fun c hc => f c (fun h => by have := (hX c h).1; omega)
  have s1 : Sm2 I I1 := Sm2.fr f (fun c hc => (hX c hc).2.elim Or.inl (fun h => Or.inr (Or.inl h)))
  have z1 : I1 0 = I 0 := f 0 (fun h => by have := (hX 0 h).2; unfold sc at this; omega)
  have fin := act_fin2 (I2 := I1) (ks' := ks) (σ' := σ) h mv hi s1 z1 (fun _ _ => rfl) Sm2.rf rfl g ac.1 ac.2.1 cs (m2.c (hi 317 (by omega))) (ac.2.2.1.fr (fun c h1 h2 => f c (fun h => by have := (hX c h).2; unfold sc at this; omega))) (Rows.fr hn ac.2.1 ac.2.2.2 (hi 318 (by omega)) (by rw [hi 310 (by omega)]))
  obtain ⟨⟨ν', σ', ks', vs', hp⟩, mv'⟩ := fin
  exact ⟨⟨_, _, _, _, hp.sm s2⟩, mv'.sm s2⟩
/-- what the reference needs after such a question -/
theorem ask_ref (h : Pk ν σ ks vs I) {X : List Nat} (f : Fr X I I1) (hX : ∀ c ∈ X, c < 310 ∧ (sc c ∨ (36 ≤ c ∧ c ≤ 38))) : NetC ν I1 ∧ NetM ν I1 ∧ MS ν 317 0 σ I1 := by
  have hi : ∀ c, 310 ≤ c → I1 c = I c := fun c hc => f c (fun h => by have := (hX c h).1; omega)
  have s1 : Sm2 I I1 := Sm2.fr f (fun c hc => (hX c hc).2.elim Or.inl (fun h => Or.inr (Or.inl h)))
  exact ⟨h.2.2.1.sm2 s1, h.2.2.2.1.sm2 s1, h.2.2.2.2.2.1.c (hi 317 (by omega))⟩
theorem Stl_one (hn : WfN ν) : ∀ {n s : Nat} {σ : St} {c : Nat} {σ' : St} {c1 : Nat} {σ1 : St}, Stl ν n s σ c σ' → Stl ν n s σ c1 σ1 → c = c1 ∧ σ' = σ1
  | 0, s, σ, c, σ', c1, σ1, h, h' => ⟨h.2.1.trans h'.2.1.symm, h.2.2.trans h'.2.2.symm⟩
  | n + 1, s, σ, c, σ', c1, σ1, h, h' => by
    rcases h with ⟨h0, h1, h2⟩ | ⟨h0, t, q, ht, hq, h⟩
    · rcases h' with ⟨-, h1', h2'⟩ | ⟨h0', -⟩
      · exact ⟨h1.trans h1'.symm, h2.trans h2'.symm⟩
      · exact absurd h0 h0'
    · rcases h' with ⟨h0', -⟩ | ⟨-, t', q', ht', hq', h'⟩
      · exact absurd h0' h0
      · obtain rfl := stg_one ht ht'
        obtain rfl := bst_one hn ht.1 hq hq'
        rcases h with ⟨hz, h⟩ | ⟨hz, s1, d1, hp, hc, h⟩
        · rcases h' with ⟨-, h'⟩ | ⟨hz', -⟩
          · exact Stl_one hn h h'
          · exact absurd hz hz'
        · rcases h' with ⟨hz', -⟩ | ⟨-, s2, d2, hp', hc', h'⟩
          · exact absurd hz' hz
          · obtain rfl := psh_one hp hp'
            obtain ⟨e1, e2⟩ := Stl_one hn h h'
            exact ⟨by omega, e2⟩
/-- who stands in the end stood before, or waited -/
theorem Stl_sub : ∀ {n s : Nat} {σ : St} {c : Nat} {σ' : St}, Stl ν n s σ c σ' → ∀ i, σ'.w i ≠ [] → σ.w i ≠ [] ∨ s.testBit i = true
  | 0, s, σ, c, σ', h, i, hi => by rw [h.2.2] at hi; exact Or.inl hi
  | n + 1, s, σ, c, σ', h, i, hi => by
    rcases h with ⟨h0, h1, h2⟩ | ⟨h0, t, q, ht, hq, ⟨hz, h⟩ | ⟨hz, s1, d1, hp, hc, h⟩⟩
    · rw [h2] at hi; exact Or.inl hi
    · rcases Stl_sub h i hi with h | h
      · exact Or.inl h
      · rw [clr_tb ht.2.1] at h
        simp at h
        exact Or.inr h.1
    · have key : (stW σ t q).w i ≠ [] → σ.w i ≠ [] ∨ s.testBit i = true := by
        intro h
        rw [stW_w] at h
        by_cases hit : i = t
        · subst hit; exact Or.inr ht.2.1
        · rw [if_neg hit] at h; exact Or.inl h
      rcases Stl_sub h i hi with h | h
      · rw [dpW_w] at h
        by_cases hb : s1.testBit i = true
        · rw [if_pos hb] at h; exact absurd rfl h
        · rw [if_neg hb] at h; exact key h
      · rw [Nat.testBit_or, clr_tb ht.2.1] at h
        cases hs : s.testBit i with
        | true => exact Or.inr rfl
        | false =>
          rw [hs] at h
          simp at h
          have := hp.2.1 i h
          unfold wkr at this
          simp at this
          rcases key this.2.1 with h | h
          · exact Or.inl h
          · rw [hs] at h; cases h
theorem nI_dif {a b d : Nat} (h : ∀ i, i < 32 → d.testBit i = (a.testBit i && !b.testBit i)) : nI a &&& (nI b ^^^ (-1)) = nI d := b_ext fun i hi => by rw [b_not hi, b_nI hi, b_nI hi, b_nI hi, h i hi]
theorem pcn_sum {a b d : Nat} (h : ∀ i, i < 16 → (a.testBit i = true ↔ (b.testBit i = true ∨ d.testBit i = true)) ∧ ¬ (b.testBit i = true ∧ d.testBit i = true)) : pcn a = pcn b + pcn d := by
  have e : (pcn a : Int) = (pcn b : Int) + (pcn d : Int) := by
    unfold pcn
    rw [pcn_sm, pcn_sm, pcn_sm, ← sm_add]
    apply sm_congr
    intro k hk
    have := h k hk
    show (if a.testBit k = true then (1 : Int) else 0) = (if b.testBit k = true then (1 : Int) else 0) + (if d.testBit k = true then (1 : Int) else 0)
    by_cases h1 : b.testBit k = true <;> by_cases h2 : d.testBit k = true
    · exact absurd ⟨h1, h2⟩ this.2
    · rw [if_pos (this.1.mpr (Or.inl h1)), if_pos h1, if_neg h2]; rfl
    · rw [if_pos (this.1.mpr (Or.inr h2)), if_neg h1, if_pos h2]; rfl
    · rw [if_neg (fun h => (this.1.mp h).elim h1 h2), if_neg h1, if_neg h2]; rfl
  omega
end Ask
section Pushes
variable {N : Nat}
set_option maxHeartbeats 2000000 in
theorem s_pushes (hN : 100000000000 ≤ N) : St_pushes N Inv := by
  intro c I J a1 a2 hc hInv
  obtain ⟨⟨ν, σ, ks, vs, hP⟩, mv⟩ := id hInv
  obtain ⟨hn, g, c1, m1, c2, m2, ac, sg, im, tp, ct⟩ := id hP
  have htn := hn.2.2.2.1
  have hww := g.wf hn
  have s0 : ∀ {K : gI}, Sm K (upd2 K 310 0 0) := Sm.rf.u0
  rcases tun_ck hn a1 with ⟨t, ht, rfl, eC, eM⟩ | ⟨eC, eM⟩
  · have hT := hn.2.2.2.2.2 t ht
    have hpow : (2 : Nat) ^ ν.tn ≤ 2 ^ 9 := Nat.pow_le_pow_right (by decide) htn
    have hpow2 : (2 : Nat) ^ t < 2 ^ ν.tn := Nat.pow_lt_pow_right (by decide) ht
    have h29 : (2 : Nat) ^ 9 = 512 := rfl
    have hpos : 0 < (2 : Nat) ^ t := Nat.pow_pos (by decide)
    have baseM : ∀ (K : gI) x, NetM ν K → mX11_within a2 0 1 (upd2 K 310 0 0) = some x → mX11_pushes N (nI t) a2 K = Option.bind (Option.bind (mX11_right x 1 (upd2 K 310 0 0)) (fun (r3, I4) => zo r3 (some (r3, I4)))) (fun (r5, I6) => if r5 = 0 then (some (0, I6)) else (Option.bind (mX11_tries N I6) (fun I9 => ck (1 + nI t) 164 (Option.bind (mX11_hasBest N 82 (nI t) (I9 317 (1 + nI t).toNatClampNeg) I9) (fun (r12, I13) => if r12 = 0 then (some ((-1), I13)) else (if a2 = 0 then (Option.bind (mX11_takes N 82 (nI t) I13) (fun I27 => Option.bind (mX11_pushedBy N 82 (nI t) I27) (fun r29 => some (r29, I27)))) else (Option.bind (mX11_settles N 82 ((1 : Int32) <<< (nI t &&& 31)) I13) (fun I17 => Option.bind (mX11_standing N 0 I17) (fun r19 => Option.bind (mX11_bits N (r19 &&& (((1 : Int32) <<< (nI t &&& 31)) ^^^ (-1))) I17) (fun r21 => Option.bind (mX11_standing N 82 I17) (fun r23 => Option.bind (mX11_bits N (r23 &&& (((1 : Int32) <<< (nI t &&& 31)) ^^^ (-1))) I17) (fun r25 => some (r21 - r25, I17)))))))))))))  := by
      intro K x hm hx
      unfold mX11_pushes mX11_isWhat
      rw [eM _ (hm.sm s0) u2_at, ob_some]
      dsimp only
      rw [if_neg (by decide), hx, ob_some]
    rcases wi_ck (lo := 0) (hi := 1) (by omega) (by omega) a2 with ⟨p, -, hp, rfl, eW⟩ | ⟨hno, eW⟩
    · have hp' : p = 0 ∨ p = 1 := by omega
      obtain ⟨I5, q, eB, fq, hq⟩ := c_bnow (N := N) hn g c1 c2 (by omega) ht
      have c5 := c1.fr fq (by simp)
      have refB : ∀ K : gI, NetM ν K → MS ν 317 0 σ K → ∃ I9 I13, mX11_tries N (upd2 K 310 0 0) = some I9 ∧ I9 317 (1 + t) = nI (σ.bd t) ∧ FS 82 (upd2 K 310 0 0) I13 ∧ NetM ν I13 ∧ MS ν 317 82 σ I13 ∧ ((q ≠ [] ∧ mX11_hasBest N 82 (nI t) (nI (σ.bd t)) I9 = some (1, I13) ∧ I13 310 32 = nI q.length ∧ ∀ k, (hk : k < q.length) → I13 322 k = nI q[k]) ∨ (q = [] ∧ mX11_hasBest N 82 (nI t) (nI (σ.bd t)) I9 = some (0, I13))) := by
        intro K hm hk
        have hk' : MS ν 317 0 σ (upd2 K 310 0 0) := hk.c (u2_c (by decide))
        obtain ⟨I9, e9, f9, z9, h9⟩ := m_tries (N := N) hn hww (by omega) hk'
        have hm9 := (hm.sm s0).fs f9
        obtain ⟨I13, q', hq', fB, hres⟩ := m_hasBest (N := N) (b := 82) hn hm9 h9 hww (by omega) hN ht (g.1 t ht).2.1
        obtain rfl := bst_one hn ht hq hq'
        have q1 : I9 317 (1 + t) = nI (σ.bd t) := by
          rw [f9.2.2 (1 + t) (by omega)]
          have := (hk'.2 t ht).1
          rwa [Nat.zero_add] at this
        refine ⟨I9, I13, e9, q1, f9.tr (FS.fb fB), hm9.fb fB, h9.c (fB.1 317 (by simp)), ?_⟩
        rcases hres with ⟨h1, h2, h3, h4⟩ | ⟨h1, h2, -⟩
        · exact Or.inl ⟨h1, h2, h3, h4⟩
        · exact Or.inr ⟨h1, h2⟩
      by_cases hq0 : q = []
      · have h5 := ask_ref hP fq (by simp [sc])
        obtain ⟨I9, I13, e9, q9, f13, hN13, hM13, hres⟩ := refB I5 h5.2.1 h5.2.2
        rcases hres with ⟨hne, -⟩ | ⟨-, e13⟩
        · exact absurd hq0 hne
        refine ⟨.inl (-1), I5, -1, I13, ?_, (fun E h => by cases h), ?_, ?_, (fun v h => by cases h; rfl), hInv.sm ((Sm.fr fq (by simp [sc])).tr (s0.tr (Sm.fs f13)))⟩
        · unfold mX10_pushes
          rw [eC I c1, lb_l]
          rcases hp' with rfl | rfl
          · rw [if_pos (show nI 0 = 0 from rfl), eB, ob_some]
            dsimp only
            rw [if_pos (show wb q = 0 by rw [hq0]; rfl)]
          · rw [if_neg (show ¬ nI 1 = 0 by decide), if_pos (show nI 1 = 1 from rfl), eB, ob_some]
            dsimp only
            rw [if_pos (show wb q = 0 by rw [hq0]; rfl)]
        · rw [baseM I5 1 h5.2.1 (eW _), m_right1 u2_at, ob_some]
          dsimp only
          rw [zo_1, ob_some]
          dsimp only
          rw [if_neg (by decide), e9, ob_some, ix1', ck_n (by omega) (by decide), nI_clamp (by omega), q9, e13, ob_some]
          dsimp only
          rw [if_pos rfl]
        · rw [f13.2.1 0 (by simp), u2_at]; rfl
      · have cs5 := c2.fr fq (by simp) (by simp) (by simp)
        obtain ⟨I10, e10, f10, cs10⟩ := c_copy (N := N) (u := 39) (w := 36) hn (by omega) (by omega) cs5
        have cs10' := cs5.fr f10 (by simp) (by simp) (by simp)
        have hB' := bst_isB hq hq0
        have hw1 : WfW ν (stW σ t q) := WfW_st (bd := 0) (p := 0) hn hww ht hB'
        have cs11 : CS ν 36 (stW σ t q) (upd2 I10 37 t (wb q)) := CS_st cs10'
        have f11 : Fr [30, 31, 32, 33, 37, 39, 40, 41] I (upd2 I10 37 t (wb q)) := ((fq.mono (by simp)).tr (f10.mono (by simp))).u2 (by simp)
        have c11 := c1.fr f11 (by simp)
        obtain ⟨s1, e12, hps⟩ := c_push (N := N) hn c11 cs11 hw1 (by omega) ht (st_fit hB')
        obtain ⟨I15, e15, f15, cs15⟩ := c_drop (N := N) hn c11 cs11 (by omega) (by omega) s1
        have g15 := Gd_step hn g ht hB' hps
        have c15 := c11.fr f15 (by simp)
        obtain ⟨n, σ', I18, e18, hS, cs18, g18, f18, -, -⟩ := c_settle (N := N) (u := 36) hn (by omega) (by omega) g15 c15 cs15 hps.1
        have c18 := c15.fr f18 (by simp)
        have cs39 : CS ν 39 σ I18 := ((cs10.fr (Fr.rf.u2 (X := [37]) (by simp)) (by simp) (by simp) (by simp)).fr f15 (by simp) (by simp) (by simp)).fr f18 (by simp) (by simp) (by simp)
        obtain ⟨I26, e26, f26, cs26⟩ := c_copy (N := N) (u := 36) (w := 39) hn (by omega) (by omega) cs39
        have fAll : Fr [30, 31, 32, 33, 36, 37, 38, 39, 40, 41] I I26 := (((f11.mono (by simp)).tr (f15.mono (by simp))).tr (f18.mono (by simp))).tr (f26.mono (by simp))
        have h26 := ask_ref hP fAll (by simp [sc])
        obtain ⟨I9, I13, e9, q9, f13, hN13, hM13, hres⟩ := refB I26 h26.2.1 h26.2.2
        rcases hres with ⟨-, e13, k1, k2⟩ | ⟨hne, -⟩
        rotate_left
        · exact absurd hne hq0
        have hS10 : Stl ν 10 (2 ^ t) σ (pcn s1 + n) σ' := Or.inr ⟨by omega, t, q, stg_one_t ht, hq, Or.inr ⟨hq0, s1, n, hps, rfl, by rw [clr_one, Nat.zero_or]; exact hS⟩⟩
        have hsub := Stl_sub hS10
        have hA : nI (mk9 (snd9 σ) ν.tn) &&& (((1 : Int32) <<< (nI t &&& 31)) ^^^ (-1)) = nI (mk9 (fun i => snd9 σ i && decide (i ≠ t)) ν.tn) := by
          rw [sh1_n t (by omega)]
          refine nI_dif (fun i hi => ?_)
          rw [mk9_tb, mk9_tb, Nat.testBit_two_pow]
          by_cases h : t = i
          · subst h; simp
          · have h' : ¬ i = t := fun e => h e.symm
            simp [h, h']
        have hA' : nI (mk9 (snd9 σ') ν.tn) &&& (((1 : Int32) <<< (nI t &&& 31)) ^^^ (-1)) = nI (mk9 (fun i => snd9 σ' i && decide (i ≠ t)) ν.tn) := by
          rw [sh1_n t (by omega)]
          refine nI_dif (fun i hi => ?_)
          rw [mk9_tb, mk9_tb, Nat.testBit_two_pow]
          by_cases h : t = i
          · subst h; simp
          · have h' : ¬ i = t := fun e => h e.symm
            simp [h, h']
        have hD : nI (mk9 (fun i => snd9 σ i && decide (i ≠ t)) ν.tn) &&& (nI (mk9 (snd9 σ') ν.tn) ^^^ (-1)) = nI (mk9 (fun i => (snd9 σ i && decide (i ≠ t)) && !snd9 σ' i) ν.tn) := by
          refine nI_dif (fun i hi => ?_)
          rw [mk9_tb, mk9_tb, mk9_tb]
          by_cases h : i < ν.tn <;> simp [h]
        have hcnt : pcn (mk9 (fun i => snd9 σ i && decide (i ≠ t)) ν.tn) = pcn (mk9 (fun i => snd9 σ' i && decide (i ≠ t)) ν.tn) + pcn (mk9 (fun i => (snd9 σ i && decide (i ≠ t)) && !snd9 σ' i) ν.tn) := by
          apply pcn_sum
          intro i hi
          rw [mk9_tb, mk9_tb, mk9_tb]
          have := hsub i
          rw [Nat.testBit_two_pow] at this
          unfold snd9
          by_cases h1 : i < ν.tn <;> by_cases h2 : i = t <;> by_cases h3 : σ.w i = [] <;> by_cases h4 : σ'.w i = [] <;> simp_all
        have hfew : nI (pcn (mk9 (fun i => snd9 σ i && decide (i ≠ t)) ν.tn)) - nI (pcn (mk9 (fun i => snd9 σ' i && decide (i ≠ t)) ν.tn)) = nI (pcn (mk9 (fun i => (snd9 σ i && decide (i ≠ t)) && !snd9 σ' i) ν.tn)) := by
          rw [nI_sub (by omega)]
          congr 1
          omega
        have ecl : ∀ r, ((p = 0 ∧ r = nI s1) ∨ (p = 1 ∧ r = nI (pcn (mk9 (fun i => (snd9 σ i && decide (i ≠ t)) && !snd9 σ' i) ν.tn)))) → mX10_pushes N (nI t) (nI p) I = some (.inl r, I26) := by
          intro r hr
          unfold mX10_pushes
          rw [eC I c1, lb_l]
          rcases hr with ⟨rfl, rfl⟩ | ⟨rfl, rfl⟩
          · rw [if_pos (show nI 0 = 0 from rfl), eB, ob_some]
            dsimp only
            rw [if_neg (fun h => hq0 ((wb_0 hn (bst_ln hq)).mp h)), c_stands hn c5 cs5 hww (by omega), ob_some, e10, ob_some, ck_n (by omega) (by decide), nI_clamp (by omega), e12, ob_some, e15, ob_some, e18, ob_some]
            dsimp only
            rw [c_stands hn c18 cs18 (g18.wf hn) (by omega), ob_some, nm_n, hA, hD, c_bits (mk9_512 hn _), ob_some, e26, ob_some, if_pos (show nI 0 = 0 from rfl)]
          · rw [if_neg (show ¬ nI 1 = 0 by decide), if_pos (show nI 1 = 1 from rfl), eB, ob_some]
            dsimp only
            rw [if_neg (fun h => hq0 ((wb_0 hn (bst_ln hq)).mp h)), c_stands hn c5 cs5 hww (by omega), ob_some, e10, ob_some, ck_n (by omega) (by decide), nI_clamp (by omega), e12, ob_some, e15, ob_some, e18, ob_some]
            dsimp only
            rw [c_stands hn c18 cs18 (g18.wf hn) (by omega), ob_some, nm_n, hA, hD, c_bits (mk9_512 hn _), ob_some, e26, ob_some, if_neg (show ¬ nI 1 = 0 by decide)]
        rcases hp' with rfl | rfl
        · have hq7 : q.length ≤ 7 := by have := hB'.1.2.2.1; omega
          obtain ⟨I27, e27, f27, y27, hM27⟩ := m_takes (N := N) (b := 82) hn hN13 hM13 hww (by omega) (by omega) ht hq0 hq7 k1 k2
          obtain ⟨s2, e29, hps2⟩ := m_push (N := N) (b := 82) hn (hN13.fs f27) hM27 hw1 (by omega) (by omega) ht (by rw [stW_w, if_pos rfl]; exact hq0) (st_fit hB')
          obtain rfl := psh_one hps hps2
          refine ⟨.inl (nI s1), I26, nI s1, I27, ecl _ (Or.inl ⟨rfl, rfl⟩), (fun E h => by cases h), ?_, ?_, (fun v h => by cases h; rfl), ask_fin hP mv fAll (by simp [sc]) cs26 (s0.tr (Sm.fs (f13.tr f27)))⟩
          · rw [baseM I26 1 h26.2.1 (eW _), m_right1 u2_at, ob_some]
            dsimp only
            rw [zo_1, ob_some]
            dsimp only
            rw [if_neg (show ¬ (1 : Int32) = 0 by decide), e9, ob_some, ix1', ck_n (by omega) (by decide), nI_clamp (by omega), q9, e13, ob_some]
            dsimp only
            rw [if_neg (show ¬ (1 : Int32) = 0 by decide), if_pos (show nI 0 = 0 from rfl), show mX11_takes N 82 (nI t) I13 = some I27 from e27, ob_some, show mX11_pushedBy N 82 (nI t) I27 = some (nI s1) from e29, ob_some]
          · rw [(f13.tr f27).2.1 0 (by simp), u2_at]; rfl
        · obtain ⟨I17, e17, hM17, f17, -⟩ := m_settle2 (N := N) (b := 82) hn hN (by omega) 10 (2 ^ t) σ I13 N _ σ' g hN13 hM13 hpow2 (by omega) hS10
          have hN17 := hN13.fs f17
          have hM0 : MS ν 317 0 σ I17 := MS.fr hn hww (h26.2.2.c (u2_c (by decide)) : MS ν 317 0 σ (upd2 I26 310 0 0)) (fun j _ hj => (f13.tr f17).2.2 j (by omega))
          refine ⟨.inl (nI (pcn (mk9 (fun i => (snd9 σ i && decide (i ≠ t)) && !snd9 σ' i) ν.tn))), I26, nI (pcn (mk9 (fun i => (snd9 σ i && decide (i ≠ t)) && !snd9 σ' i) ν.tn)), I17, ecl _ (Or.inr ⟨rfl, rfl⟩), (fun E h => by cases h), ?_, ?_, (fun v h => by cases h; rfl), ask_fin hP mv fAll (by simp [sc]) cs26 (s0.tr (Sm.fs (f13.tr f17)))⟩
          · rw [baseM I26 1 h26.2.1 (eW _), m_right1 u2_at, ob_some]
            dsimp only
            rw [zo_1, ob_some]
            dsimp only
            rw [if_neg (show ¬ (1 : Int32) = 0 by decide), e9, ob_some, ix1', ck_n (by omega) (by decide), nI_clamp (by omega), q9, e13, ob_some]
            dsimp only
            rw [if_neg (show ¬ (1 : Int32) = 0 by decide), if_neg (show ¬ nI 1 = 0 by decide)]
            unfold mX11_settles
            rw [show mX11_settles_2 N 82 N ((1 : Int32) <<< (nI t &&& 31)) I13 = some I17 by rw [sh1_n t (by omega)]; exact e17, ob_some, ob_some, show mX11_standing N 0 I17 = _ from m_stands (b := 0) hn hN17 hM0 hww (by omega) (by omega), ob_some, hA, m_bits (by omega), ob_some, show mX11_standing N 82 I17 = _ from m_stands (b := 82) hn hN17 hM17 (g18.wf hn) (by omega) (by omega), ob_some, hA', m_bits (by omega), ob_some, hfew]
          · rw [(f13.tr f17).2.1 0 (by simp), u2_at]; rfl
    · refine ⟨.inr xnN, I, 0, upd2 (upd2 I 310 0 0) 310 0 1, ?_, (fun E h => by cases h; rfl), ?_, u2_at, (fun v h => by cases h), hInv.sm s0.u0⟩
      · unfold mX10_pushes
        rw [eC I c1, lb_l, if_neg (show ¬ a2 = 0 from hno 0 (by omega) (by omega)), if_neg (show ¬ a2 = 1 from hno 1 (by omega) (by omega))]
      · rw [baseM I 0 m1 (eW _), m_right0 u2_at (by decide), ob_some]
        dsimp only
        rw [zo_0, ob_some]
        dsimp only
        rw [if_pos rfl]
  · refine ⟨.inr xnN, I, 0, upd2 (upd2 I 310 0 0) 310 0 1, ?_, (fun E h => by cases h; rfl), ?_, u2_at, (fun v h => by cases h), hInv.sm s0.u0⟩
    · unfold mX10_pushes
      rw [eC I c1, lb_r]
    · unfold mX11_pushes
      rw [eM _ (m1.sm s0) u2_at, ob_some]
      dsimp only
      rw [if_pos rfl]
end Pushes
