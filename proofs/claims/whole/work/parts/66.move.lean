/-! move -/
section MoveS
variable {ν : Nt} {σ : St} {I : gI} {N : Nat}
theorem pl_mono {x l p : Nat} (hp : p ≤ 7) : pl ν σ x l 7 ≤ pl ν σ x l p := by
  unfold pl
  have := sm_le (f := fun i => if i ≠ x ∧ ν.T i 4 ≤ p ∧ l ∈ σ.w i then (σ.bd i : Int) else 0) (g := fun i => if i ≠ x ∧ ν.T i 4 ≤ 7 ∧ l ∈ σ.w i then (σ.bd i : Int) else 0) (n := ν.tn) (fun k _ => by
    show (if k ≠ x ∧ ν.T k 4 ≤ p ∧ l ∈ σ.w k then (σ.bd k : Int) else 0) ≤ (if k ≠ x ∧ ν.T k 4 ≤ 7 ∧ l ∈ σ.w k then (σ.bd k : Int) else 0)
    by_cases h : k ≠ x ∧ ν.T k 4 ≤ p ∧ l ∈ σ.w k
    · rw [if_pos h, if_pos ⟨h.1, by omega, h.2.2⟩]; omega
    · rw [if_neg h]; split <;> omega)
  omega
/-- a way that stands fits -/
theorem stand_fit (hn : WfN ν) (g : Gd ν σ) {t : Nat} (ht : t < ν.tn) (hst : σ.w t ≠ []) : IsP ν (fit ν σ t (σ.bd t) (ν.T t 3)) (ν.T t 0) (ν.T t 1) (ν.T t 6) (σ.w t) := by
  have htn := hn.2.2.2.1
  have hT := hn.2.2.2.2.2 t ht
  rcases (g.1 t ht).2.2 with e | e
  · exact absurd e hst
  · refine ⟨e.1, e.2.1, e.2.2.1, fun l hl => ?_⟩
    unfold fit
    rw [e.2.2.2 l hl, Bool.true_and, decide_eq_true_eq]
    have h1 := pl_back (ν := ν) (σ := σ) (l := l) (p := 7) ht htn (by omega)
    have h2 := g.2 l (chn_lt e.1 l hl)
    have h3 := pl_mono (ν := ν) (σ := σ) (x := t) (l := l) hT.2.2.2.2.2.1
    unfold bk at h1
    rw [if_pos hl] at h1
    omega
theorem stand_best (hn : WfN ν) (g : Gd ν σ) {t : Nat} (ht : t < ν.tn) (hst : σ.w t ≠ []) {q : List Nat} (hq : bst ν σ t (σ.bd t) (ν.T t 3) q) : q ≠ [] := by
  rcases hq with ⟨-, h⟩ | h
  · exact absurd (stand_fit hn g ht hst) (h _)
  · rintro rfl
    exact (hn.2.2.2.2.2 t ht).2.2.1 h.1.1
theorem m_asBest (hn : WfN ν) (hs : MS ν 317 0 σ I) (hw : WfW ν σ) (hN : 100 ≤ N) {t : Nat} {q : List Nat} (ht : t < ν.tn) (hst : σ.w t ≠ []) (hq : q ≠ []) (hq7 : q.length ≤ 7) (hql : ∀ l ∈ q, l < ν.ln) (h32 : I 310 32 = nI q.length) (h322 : ∀ k, (hk : k < q.length) → I 322 k = nI q[k]) : mX11_isAsBest N (nI t) I = some (if σ.w t = q then 1 else 0) := by
  have htn := hn.2.2.2.1
  have hln := hn.2.2.1
  have hwt := hw t ht
  have hpos : 0 < q.length := by cases q with | nil => exact absurd rfl hq | cons x q => simp
  have q10 : I 317 (10 + t) = nI (σ.w t).length := by have := (hs.2 t ht).2.1; rwa [Nat.zero_add, if_neg hst] at this
  unfold mX11_isAsBest
  rw [ix10', ck_n (by omega) (by decide), nI_clamp (by omega), q10, h32]
  by_cases hlen : (σ.w t).length = q.length
  · rw [if_pos (by rw [hlen]), ob_some]
    have h9 := loopR (F := fun n (v : Int32) i => mX11_isAsBest_24 (nI t) I n v i) (b := q.length) (out := id) (Qr := fun r => r = 0 ∧ σ.w t ≠ q)
      (P := fun k v => (v = 1 ∧ ∀ j, (h1 : j < (σ.w t).length) → (h2 : j < q.length) → j < k → (σ.w t)[j] = q[j]) ∨ (v = 0 ∧ σ.w t ≠ q))
      (fun n v _ => by
        show mX11_isAsBest_24 (nI t) I (n + 1) v (nI q.length) = some v
        rw [mX11_isAsBest_24, h32, if_pos (nI_le (Nat.le_refl _) (by omega))])
      (fun n k v hk hP => by
        rcases hP with ⟨rfl, hP⟩ | ⟨rfl, hP⟩
        · left
          have hkw : k < (σ.w t).length := by omega
          have q19 : I 317 (19 + 7 * t + k) = nI (σ.w t)[k] := by have := (hs.2 t ht).2.2 k hkw; rwa [Nat.zero_add] at this
          have b1 := hwt.2.2 _ (List.getElem_mem hkw)
          have b2 := hql _ (List.getElem_mem hk)
          have key : mX11_isAsBest_24 (nI t) I (n + 1) 1 (nI k) = if (σ.w t)[k] = q[k] then mX11_isAsBest_24 (nI t) I n 1 (nI (k + 1)) else mX11_isAsBest_24 (nI t) I n 0 (nI (k + 1)) := by
            rw [mX11_isAsBest_24, h32, if_neg (nI_ge hk (by omega)), if_neg (by decide), show (19 : Int32) + 7 * nI t + nI k = nI (19 + 7 * t + k) by rw [n7', show (19 : Int32) = nI 19 from rfl, nI_add, nI_add], ck_n (by omega) (by decide), ck_n (by omega) (by decide), nI_clamp (by omega), nI_clamp (by omega), q19, h322 k hk, nI_1]
            by_cases h : (σ.w t)[k] = q[k]
            · rw [if_pos (by rw [h]), if_pos h]
            · rw [if_neg (fun e => h ((nI_eq (by omega) (by omega)).mp e)), if_neg h]
          by_cases h : (σ.w t)[k] = q[k]
          · rw [if_pos h] at key
            refine ⟨1, key, Or.inl ⟨rfl, fun j h1 h2 hj => ?_⟩⟩
            by_cases e : j = k
            · subst e; exact h
            · exact hP j h1 h2 (by omega)
          · rw [if_neg h] at key
            exact ⟨0, key, Or.inr ⟨rfl, fun e => h (by simp only [e])⟩⟩
        · right
          refine ⟨0, ?_, rfl, hP⟩
          show mX11_isAsBest_24 (nI t) I (n + 1) 0 (nI k) = some 0
          rw [mX11_isAsBest_24, h32, if_neg (nI_ge hk (by omega)), if_pos rfl])
      N 0 1 (Nat.zero_le _) (by omega) (Or.inl ⟨rfl, fun j _ _ h => by omega⟩)
    rcases h9 with ⟨v, hP, e⟩ | ⟨r, e, rfl, h2⟩
    · rw [show mX11_isAsBest_24 (nI t) I N 1 0 = some v from e, ob_some]
      rcases hP with ⟨rfl, hP⟩ | ⟨rfl, hP⟩
      · rw [zo_1, if_pos (List.ext_getElem hlen (fun j h1 h2 => hP j h1 h2 h2))]
      · rw [zo_0, if_neg hP]
    · rw [show mX11_isAsBest_24 (nI t) I N 1 0 = some 0 from e, ob_some, zo_0, if_neg h2]
  · rw [if_neg (fun e => hlen ((nI_eq (by omega) (by omega)).mp e)), ob_some]
    have e : mX11_isAsBest_24 (nI t) I N 0 0 = some 0 := by
      obtain ⟨n, rfl⟩ : ∃ n, N = n + 1 := ⟨N - 1, by omega⟩
      rw [mX11_isAsBest_24, h32, if_neg (show ¬ nI q.length ≤ 0 from nI_ge hpos (by omega)), if_pos rfl]
    rw [e, ob_some, zo_0, if_neg (fun e => hlen (by rw [e]))]
end MoveS
section Steps6
variable {N : Nat}
set_option maxHeartbeats 1000000 in
theorem s_move (hN : 100000000000 ≤ N) : St_move N Inv := by
  intro c I J a1 hc hInv
  obtain ⟨⟨ν, σ, ks, vs, hP⟩, mv⟩ := id hInv
  obtain ⟨hn, g, c1, m1, c2, m2, ac, sg, im, tp, ct⟩ := id hP
  have htn := hn.2.2.2.1
  have hww := g.wf hn
  have s0 : ∀ {K : gI}, Sm K (upd2 K 310 0 0) := Sm.rf.u0
  rcases tun_ck hn a1 with ⟨t, ht, rfl, eC, eM⟩ | ⟨eC, eM⟩
  · have hT := hn.2.2.2.2.2 t ht
    have e37 : I 37 t = wb (σ.w t) := (c2.2 t ht).1
    have baseC : mX10_move N (nI t) I = if wb (σ.w t) = 0 then (Option.bind (mX10_refuseAct I) (fun (r5, I6) => some (.inl r5, I6))) else (Option.bind (mX2_bestNow N 36 (nI t) I) (fun (r8, I9) => if r8 = wb (σ.w t) then (Option.bind (mX10_refuseAct I9) (fun (r17, I18) => some (.inl r17, I18))) else (Option.bind (mX0_keep N 36 I9) (fun I12 => Option.bind (mX2_settle N 36 (nI (2 ^ t)) I12) (fun (r14, I15) => some (.inl r14, I15)))))) := by
      unfold mX10_move
      rw [eC I c1, lb_l, ck_n (by omega) (by decide), nI_clamp (by omega), e37, sh1_n t (by omega)]
    have baseM : ∀ K : gI, NetM ν K → MS ν 317 0 σ K → mX11_move N (nI t) K = if σ.w t = [] then some (-1, upd2 (upd2 K 310 0 0) 312 1 ((upd2 K 310 0 0) 312 1 + 1)) else Option.bind (mX11_hasBest N 0 (nI t) (nI (σ.bd t)) (upd2 K 310 0 0)) (fun (r12, I13) => if r12 = 0 then (Option.bind (mX11_refuses 1 I13) (fun (r16, I17) => some (r16, I17))) else (Option.bind (mX11_isAsBest N (nI t) I13) (fun r19 => if r19 = 0 then (Option.bind (mX11_keeps N I13) (fun I22 => Option.bind (mX11_settles N 0 (nI (2 ^ t)) (upd2 I22 310 36 0)) (fun I24 => some (I24 310 36, I24)))) else (Option.bind (mX11_refuses 1 I13) (fun (r26, I27) => some (r26, I27)))))) := by
      intro K hm hk
      have hk' : MS ν 317 0 σ (upd2 K 310 0 0) := hk.c (u2_c (by decide))
      have q : (upd2 K 310 0 0) 317 (1 + t) = nI (σ.bd t) := by have := (hk'.2 t ht).1; rwa [Nat.zero_add] at this
      have d : mX11_doesStand 0 (nI t) (upd2 K 310 0 0) = some (if σ.w t = [] then 0 else 1) := m_stand (b := 0) hn hk' hww (by omega) ht
      unfold mX11_move
      rw [eM _ (hm.sm s0) u2_at, ob_some]
      dsimp only
      rw [if_neg (by decide), d, ob_some]
      by_cases hst : σ.w t = []
      · rw [if_pos hst, if_pos rfl, if_pos hst, m_refuses, ob_some]
      · rw [if_neg hst, if_neg (by decide), if_neg hst, ix1', ck_n (by omega) (by decide), nI_clamp (by omega), q, sh1_n t (by omega)]
    by_cases hst : σ.w t = []
    · have hN1 : NetM ν (upd2 I 0 4 (I 0 4 + 1)) := m1.fr (X := [0]) (Fr.rf.u2 (by simp)) (by simp) (by simp) (by simp)
      have hM1 : MS ν 317 0 σ (upd2 I 0 4 (I 0 4 + 1)) := m2.c (u2_c (by decide))
      refine ⟨.inl (-1), upd2 I 0 4 (I 0 4 + 1), -1, _, ?_, (fun E h => by cases h), by rw [baseM _ hN1 hM1, if_pos hst], ?_, (fun v h => by cases h; rfl), Inv_ref hP mv Sm.rf s0⟩
      · rw [baseC, if_pos (by rw [hst]; rfl)]; rfl
      · rw [u2_c (by decide), u2_at]; rfl
    · have hwb : ¬ wb (σ.w t) = 0 := fun h => hst ((wb_0 hn (hww t ht).2.2).mp h)
      obtain ⟨I9, q, eB, fq, hq⟩ := c_bnow (N := N) hn g c1 c2 (by omega) ht
      have hq0 := stand_best hn g ht hst hq
      have hqP := bst_isP hq
      have hq7 : q.length ≤ 7 := by
        rcases hqP with e | e
        · exact absurd e hq0
        · have := e.2.2.1; omega
      have c9 := c1.fr fq (by simp)
      have sm9 : Sm I I9 := Sm.fr fq (by simp [sc])
      have hP9 := hP.sm sm9
      have hinj : wb q = wb (σ.w t) ↔ σ.w t = q := ⟨fun e => (wb_inj hn c1 hT.1 hT.2.1 hT.2.2.2.2.2.2.2.2.2 hqP (g.1 t ht).2.2 e).symm, fun e => by rw [e]⟩
      by_cases hsame : σ.w t = q
      · have hN9 : NetM ν (upd2 I9 0 4 (I9 0 4 + 1)) := (hP9.2.2.2.1).fr (X := [0]) (Fr.rf.u2 (by simp)) (by simp) (by simp) (by simp)
        have hM9 : MS ν 317 0 σ (upd2 I9 0 4 (I9 0 4 + 1)) := hP9.2.2.2.2.2.1.c (u2_c (by decide))
        have hM9' : MS ν 317 0 σ (upd2 (upd2 I9 0 4 (I9 0 4 + 1)) 310 0 0) := hM9.c (u2_c (by decide))
        obtain ⟨I13, q', hq', fB, hres⟩ := m_hasBest (N := N) (b := 0) hn (hN9.sm s0) hM9' hww (by omega) hN ht (g.1 t ht).2.1
        obtain rfl := bst_one hn ht hq hq'
        rcases hres with ⟨-, e, k1, k2⟩ | ⟨hne, -⟩
        rotate_left
        · exact absurd hne hq0
        have hA := m_asBest (N := N) hn (hM9'.c (fB.1 317 (by simp))) hww (by omega) ht hst hq0 hq7 (bst_ln hq) k1 k2
        refine ⟨.inl (-1), upd2 I9 0 4 (I9 0 4 + 1), -1, upd2 I13 312 1 (I13 312 1 + 1), ?_, (fun E h => by cases h), ?_, ?_, (fun v h => by cases h; rfl), Inv_ref hP mv sm9 (s0.tr (Sm.fb fB))⟩
        · rw [baseC, if_neg hwb, eB, ob_some]
          dsimp only
          rw [if_pos (hinj.mpr hsame)]
          rfl
        · rw [baseM _ hN9 hM9, if_neg hst, show mX11_hasBest N 0 (nI t) (nI (σ.bd t)) (upd2 (upd2 I9 0 4 (I9 0 4 + 1)) 310 0 0) = some (1, I13) from e, ob_some]
          dsimp only
          rw [if_neg (by decide), hA, if_pos hsame, ob_some, if_neg (by decide), m_refuses, ob_some]
        · rw [u2_c (by decide), fB.2 0 (by simp), u2_at]; rfl
      · obtain ⟨I12, e12, rg12, cs12, c12, f12, s12, hi12, z12⟩ := c_act (N := N) (by omega) hP fq
        have hpow : (2 : Nat) ^ t < 2 ^ ν.tn := Nat.pow_lt_pow_right (by decide) ht
        obtain ⟨n, σ', I15, e15, hS, cs15, g15, f15, -, -⟩ := c_settle (N := N) (u := 36) hn (by omega) (by omega) g c12 cs12 hpow
        have hi : ∀ c, 310 ≤ c → I15 c = I c := fun c hc => by rw [f15 c (by simp; omega), hi12 c hc]
        have s15 : Sm2 I I15 := s12.tr (Sm2.fr f15 (by simp [sc]))
        have hN15 : NetM ν I15 := m1.sm2 s15
        have hM15 : MS ν 317 0 σ I15 := m2.c (hi 317 (by omega))
        have hM15' : MS ν 317 0 σ (upd2 I15 310 0 0) := hM15.c (u2_c (by decide))
        obtain ⟨I13, q', hq', fB, hres⟩ := m_hasBest (N := N) (b := 0) hn (hN15.sm s0) hM15' hww (by omega) hN ht (g.1 t ht).2.1
        obtain rfl := bst_one hn ht hq hq'
        rcases hres with ⟨-, e, k1, k2⟩ | ⟨hne, -⟩
        rotate_left
        · exact absurd hne hq0
        have hA := m_asBest (N := N) hn (hM15'.c (fB.1 317 (by simp))) hww (by omega) ht hst hq0 hq7 (bst_ln hq) k1 k2
        obtain ⟨I16, e16, hR16, lo16, s16, z16, k16, hM16, hN16, h016, -, -⟩ := m_act (N := N) (by omega) hP hi s15 fB
        have hN17 : NetM ν (upd2 I16 310 36 0) := hN16.sm (Sm.rf.u (by unfold Kp; omega))
        have hM17 : MS ν 317 0 σ (upd2 I16 310 36 0) := hM16.c (u2_c (by decide))
        obtain ⟨I18, e18, hM18, f18, k18⟩ := m_settle (N := N) (b := 0) hn hN (by omega) g hN17 hM17 hpow hS
        refine ⟨.inl (nI n), I15, nI n, I18, ?_, (fun E h => by cases h), ?_, ?_, (fun v h => by cases h; rfl), act_fin hP mv hi s15 ?_ ?_ ((s16.u (by unfold Kp2; omega)).tr (Sm2.fs f18)) ?_ g15 cs15 hM18 (rg12.fr (fun c h1 h2 => f15 c (by simp; omega))) ?_⟩
        · rw [baseC, if_neg hwb, eB, ob_some]
          dsimp only
          rw [if_neg (fun h => hsame (hinj.mp h)), e12, ob_some, e15, ob_some]
        · rw [baseM _ hN15 hM15, if_neg hst, show mX11_hasBest N 0 (nI t) (nI (σ.bd t)) (upd2 I15 310 0 0) = some (1, I13) from e, ob_some]
          dsimp only
          rw [if_neg (by decide), hA, if_neg hsame, ob_some, if_pos rfl, e16, ob_some, show mX11_settles N 0 (nI (2 ^ t)) (upd2 I16 310 36 0) = some I18 from e18, ob_some, k18, u2_at, Int32.zero_add]
        · rw [f18.2.1 0 (by simp), u2_ne (by omega), h016]; rfl
        · rw [f15 0 (by simp), z12]
        · intro c hc; rw [f18.1 c (by simp; omega), u2_c (by omega), lo16 c hc]
        · rw [f18.1 312 (by simp), u2_c (by decide), z16]
        · exact Rows.fr hn (kpS_gd g ac.2.1) hR16 (by rw [f18.1 318 (by simp), u2_c (by decide)]) (by rw [f18.2.1 25 (by simp), u2_ne (by omega)])
  · refine ⟨.inr xnN, I, 0, upd2 (upd2 I 310 0 0) 310 0 1, ?_, (fun E h => by cases h; rfl), ?_, u2_at, (fun v h => by cases h), hInv.sm (Sm.rf.u0.u0)⟩
    · unfold mX10_move
      rw [eC I c1, lb_r]
    · unfold mX11_move
      rw [eM _ (m1.sm Sm.rf.u0) u2_at, ob_some]
      dsimp only
      rw [if_pos rfl]
end Steps6
