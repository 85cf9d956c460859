/-! the least metric of any way; tunnel -/
section Any
variable {ν : Nt} {go : Nat → Bool} {wd : Nat → Int} {σ : St} {N u b a z h : Nat} {I : gI}
/-- the best of a node's walks is a way's -/
theorem Dm_way (hn : WfN ν) (hd : Dm ν go z h a < 1000000) : ∃ q, IsP ν go a z h q ∧ mt ν q ≤ Dm ν go z h a := by
  obtain ⟨p, h1, h2, h3, h4⟩ := Dm_ex hd
  obtain ⟨q, hs, hc, hdd⟩ := chn_simple h1
  have := mt_sub hn hs (chn_lt h1)
  have := hs.length_le
  exact ⟨q, ⟨hc, hdd, by omega, fun l hl => h2 l (hs.subset hl)⟩, by omega⟩
theorem Dm_best (hn : WfN ν) (hh : h ≤ 7) {p : List Nat} (hp : isB ν go wd a z h p) : Dm ν go z h a = mt ν p := by
  have h1 := Dm_walk hp.1.1 hp.1.2.2.2 hp.1.2.2.1
  have h2 := mt_le hn (chn_lt hp.1.1)
  have h3 := hp.1.2.2.1
  obtain ⟨q, hq, hm⟩ := Dm_way (ν := ν) (go := go) (z := z) (h := h) (a := a) hn (by omega)
  rcases hp.2 q hq with h4 | ⟨h4, -⟩ <;> omega
theorem Dm_none (hn : WfN ν) (hp : ∀ p, ¬ IsP ν go a z h p) : Dm ν go z h a = 1000000 := by
  have h1 := Dm_le (ν := ν) (go := go) (z := z) (n := a) h
  by_cases h2 : Dm ν go z h a < 1000000
  · obtain ⟨q, hq, -⟩ := Dm_way hn h2
    exact absurd hq (hp q)
  · omega
/-- widths that the reference lays out, where nothing is counted back -/
def wdN (ν : Nt) (σ : St) (l : Nat) : Int := if l < ν.ln then pl ν σ 99 l 7 else 0
theorem wdN_bd (hn : WfN ν) (hw : WfW ν σ) (l : Nat) : -1000 ≤ wdN ν σ l ∧ wdN ν σ l ≤ 1000 := by
  unfold wdN
  split
  · rename_i hl
    have := pl_sml (x := 99) (p := 7) hn hw hl
    omega
  · omega
theorem m_any (hn : WfN ν) (hI : NetM ν I) (hs : MS ν 317 b σ I) (hw : WfW ν σ) (hb : b ≤ 82) (hN : 100000000000 ≤ N) {t : Nat} (ht : t < ν.tn) :
    ∃ I', FB I I' ∧ Rec ν (wdN ν σ) (En ν (opn ν σ t) (ν.T t 1) (ν.T t 6) (ν.T t 0) [ν.T t 0]) I' ∧ ((∃ p, isB ν (opn ν σ t) (wdN ν σ) (ν.T t 0) (ν.T t 1) (ν.T t 6) p ∧ mX11_hasAny N (nI b) (nI t) I = some (1, I') ∧ I' 310 33 = nI (mt ν p)) ∨ (mX11_hasAny N (nI b) (nI t) I = some (0, I') ∧ ∀ p, ¬ IsP ν (opn ν σ t) (ν.T t 0) (ν.T t 1) (ν.T t 6) p)) := by
  have htn := hn.2.2.2.1
  have hT := hn.2.2.2.2.2 t ht
  obtain ⟨I1, e1, f1, g1⟩ := m_pools (N := N) (a := -1) (a5 := -1) (f := fun _ => 0) (want := 0) (shun := ν.T t 5) (q := fun _ => true) hn hI hs hw hb (by omega) (Or.inl ⟨rfl, rfl⟩) (by omega) hT.2.2.2.2.2.2.2.1 (fun l hl => Or.inl ⟨rfl, rfl⟩)
  have hI1 := hI.fr f1 (by simp) (by simp) (by simp)
  have g1' : GoM ν (opn ν σ t) (wdN ν σ) I1 := g1.congr (fun l hl => by unfold opn; simp) (fun l hl => by unfold wdN; rw [if_pos hl]; omega)
  obtain ⟨I2, f2, R2, h2⟩ := m_bestw (N := N) (a := ν.T t 0) (z := ν.T t 1) (h := ν.T t 6) hn hI1 g1' hT.1 hT.2.1 hT.2.2.1 hT.2.2.2.2.2.2.2.2.1 hT.2.2.2.2.2.2.2.2.2 (wdN_bd hn hw) hN
  have unf : ∀ r I2, mX11_isFound N (nI (ν.T t 0)) (nI (ν.T t 1)) (nI (ν.T t 6)) I1 = some (r, I2) → (r = 0 ∨ r = 1) → mX11_hasAny N (nI b) (nI t) I = some (r, I2) := by
    intro r I2 e hr
    unfold mX11_hasAny
    rw [show (7 : Int32) * nI t + 5 = nI (7 * t + 5) from n7 t 5, show (7 : Int32) * nI t + 1 = nI (7 * t + 1) from n7 t 1, show (7 : Int32) * nI t + 6 = nI (7 * t + 6) from n7 t 6, n7', ck_n (by omega) (by decide), nI_clamp (by omega), hI.2.2.2.2 t ht 5 (by decide), show mX11_laysPools N (nI b) (-1) 0 (-1) (nI (ν.T t 5)) I = some I1 from e1, ob_some, ck_n (by omega) (by decide), ck_n (by omega) (by decide), ck_n (by omega) (by decide), nI_clamp (by omega), nI_clamp (by omega), nI_clamp (by omega), show I1 315 (7 * t) = nI (ν.T t 0) from hI1.2.2.2.2 t ht 0 (by decide), hI1.2.2.2.2 t ht 1 (by decide), hI1.2.2.2.2 t ht 6 (by decide), e, ob_some]
    rcases hr with rfl | rfl
    · exact zo_0
    · exact zo_1
  refine ⟨I2, (FB.fr f1).tr (FB.fm f2), R2, ?_⟩
  rcases h2 with ⟨e2, p, hp, k1, k2, k3⟩ | ⟨e2, k1, k2⟩
  · exact Or.inl ⟨p, hp, unf 1 I2 e2 (Or.inr rfl), k2⟩
  · exact Or.inr ⟨unf 0 I2 e2 (Or.inl rfl), k2⟩
theorem c_least (hn : WfN ν) (hI : NetC ν I) (hs : I u 2 = σ.up) (hN : 100 ≤ N) {t : Nat} (ht : t < ν.tn) : ∃ I', mX2_leastMetric N u (nI t) I = some (nI (Dm ν (opn ν σ t) (ν.T t 1) (ν.T t 6) (ν.T t 0)), I') ∧ Fr [30, 32] I I' := by
  have htn := hn.2.2.2.1
  have hT := hn.2.2.2.2.2 t ht
  have hnn := hn.2.1
  have hln := hn.2.2.1
  obtain ⟨x, ex, hx⟩ := c_open (N := N) (u := u) (σ := σ) hn hI hs hN ht
  obtain ⟨I', r, e, f, -⟩ := c_lm (N := N) (x := x) (go := opn ν σ t) (a := ν.T t 0) (z := ν.T t 1) (h := ν.T t 6) hn hI (by omega) (by omega) hT.2.2.2.2.2.2.2.2.2 (fun l hl => by rw [hx l (by omega)]; simp [hl]) hN
  refine ⟨I', ?_, f⟩
  unfold mX2_leastMetric
  rw [ex, ob_some, ck_n (by omega) (by decide), nI_clamp (by omega), show I 8 t = nI (ν.T t 0) from hI.2.2.2.2 t ht 0 (by decide), show I 9 t = nI (ν.T t 1) from hI.2.2.2.2 t ht 1 (by decide), show I 14 t = nI (ν.T t 6) from hI.2.2.2.2 t ht 6 (by decide), e, ob_some]
end Any
section Steps12
variable {N : Nat}
set_option maxHeartbeats 2000000 in
theorem s_tunnel (hN : 100000000000 ≤ N) : St_tunnel N Inv := by
  intro c I J a1 a2 hc hInv
  obtain ⟨⟨ν, σ, ks, vs, hP⟩, mv⟩ := id hInv
  obtain ⟨hn, g, c1, m1, c2, m2, ac, sg, im, tp, ct⟩ := id hP
  have htn := hn.2.2.2.1
  have hww := g.wf hn
  have s0 : ∀ {K : gI}, Sm K (upd2 K 310 0 0) := Sm.rf.u0
  have m1' : NetM ν (upd2 I 310 0 0) := m1.sm s0
  have m2' : MS ν 317 0 σ (upd2 I 310 0 0) := m2.c (u2_c (by decide))
  rcases tun_ck hn a1 with ⟨t, ht, rfl, eC, eM⟩ | ⟨eC, eM⟩
  · have hT := hn.2.2.2.2.2 t ht
    have e37 : I 37 t = wb (σ.w t) := (c2.2 t ht).1
    have e38 : I 38 t = nI (σ.bd t) := (c2.2 t ht).2
    have mb : ∀ K : gI, MS ν 317 0 σ K → K 317 (1 + t) = nI (σ.bd t) := fun K h => by have := (h.2 t ht).1; rwa [Nat.zero_add] at this
    have ml : ∀ K : gI, MS ν 317 0 σ K → K 317 (10 + t) = (if σ.w t = [] then -1 else nI (σ.w t).length) := fun K h => by have := (h.2 t ht).2.1; rwa [Nat.zero_add] at this
    have baseM : ∀ (K : gI) x, NetM ν K → mX11_within a2 0 10 (upd2 K 310 0 0) = some x → mX11_tunnel N (nI t) a2 K = Option.bind (Option.bind (mX11_right x 1 (upd2 K 310 0 0)) (fun (r3, I4) => zo r3 (some (r3, I4)))) (fun (r5, I6) => if r5 = 0 then (some (0, I6)) else (if a2 = 2 then (ck (1 + nI t) 164 (some (I6 317 (1 + nI t).toNatClampNeg, I6))) else (if a2 = 3 then (ck ((7 * nI t) + a2) 63 (some (I6 315 ((7 * nI t) + a2).toNatClampNeg, I6))) else (if a2 = 4 then (ck ((7 * nI t) + a2) 63 (some (I6 315 ((7 * nI t) + a2).toNatClampNeg, I6))) else (if a2 = 5 then (ck ((7 * nI t) + a2) 63 (some (I6 315 ((7 * nI t) + a2).toNatClampNeg, I6))) else (if a2 = 6 then (ck ((7 * nI t) + a2) 63 (some (I6 315 ((7 * nI t) + a2).toNatClampNeg, I6))) else (if a2 = 7 then (Option.bind (mX11_doesStand 0 (nI t) I6) (fun r20 => if r20 = 0 then (some (0, I6)) else (some (1, I6)))) else (if a2 = 8 then (ck (10 + nI t) 164 (some (I6 317 (10 + nI t).toNatClampNeg, I6))) else (if a2 = 9 then (Option.bind (mX11_doesStand 0 (nI t) I6) (fun r26 => if r26 = 0 then (some ((-1), I6)) else (Option.bind (mX11_wayBits N 0 (nI t) I6) (fun r29 => Option.bind (mX11_metric N r29 I6) (fun r31 => some (r31, I6)))))) else (if a2 = 10 then (Option.bind (mX11_stretch N (nI t) I6) (fun (r34, I35) => some (r34, I35))) else (ck ((7 * nI t) + a2) 63 (some (I6 315 ((7 * nI t) + a2).toNatClampNeg, I6))))))))))))) := by
      intro K x hm hx
      unfold mX11_tunnel mX11_isWhat
      rw [eM _ (hm.sm s0) u2_at, ob_some]
      dsimp only
      rw [if_neg (by decide), hx, ob_some]
    rcases wi_ck (lo := 0) (hi := 10) (by omega) (by omega) a2 with ⟨p, -, hp, rfl, eW⟩ | ⟨hno, eW⟩
    · have bM : ∀ K : gI, NetM ν K → mX11_tunnel N (nI t) (nI p) K = (if nI p = 2 then (ck (1 + nI t) 164 (some ((upd2 K 310 0 0) 317 (1 + nI t).toNatClampNeg, (upd2 K 310 0 0)))) else (if nI p = 3 then (ck ((7 * nI t) + nI p) 63 (some ((upd2 K 310 0 0) 315 ((7 * nI t) + nI p).toNatClampNeg, (upd2 K 310 0 0)))) else (if nI p = 4 then (ck ((7 * nI t) + nI p) 63 (some ((upd2 K 310 0 0) 315 ((7 * nI t) + nI p).toNatClampNeg, (upd2 K 310 0 0)))) else (if nI p = 5 then (ck ((7 * nI t) + nI p) 63 (some ((upd2 K 310 0 0) 315 ((7 * nI t) + nI p).toNatClampNeg, (upd2 K 310 0 0)))) else (if nI p = 6 then (ck ((7 * nI t) + nI p) 63 (some ((upd2 K 310 0 0) 315 ((7 * nI t) + nI p).toNatClampNeg, (upd2 K 310 0 0)))) else (if nI p = 7 then (Option.bind (mX11_doesStand 0 (nI t) (upd2 K 310 0 0)) (fun r20 => if r20 = 0 then (some (0, (upd2 K 310 0 0))) else (some (1, (upd2 K 310 0 0))))) else (if nI p = 8 then (ck (10 + nI t) 164 (some ((upd2 K 310 0 0) 317 (10 + nI t).toNatClampNeg, (upd2 K 310 0 0)))) else (if nI p = 9 then (Option.bind (mX11_doesStand 0 (nI t) (upd2 K 310 0 0)) (fun r26 => if r26 = 0 then (some ((-1), (upd2 K 310 0 0))) else (Option.bind (mX11_wayBits N 0 (nI t) (upd2 K 310 0 0)) (fun r29 => Option.bind (mX11_metric N r29 (upd2 K 310 0 0)) (fun r31 => some (r31, (upd2 K 310 0 0))))))) else (if nI p = 10 then (Option.bind (mX11_stretch N (nI t) (upd2 K 310 0 0)) (fun (r34, I35) => some (r34, I35))) else (ck ((7 * nI t) + nI p) 63 (some ((upd2 K 310 0 0) 315 ((7 * nI t) + nI p).toNatClampNeg, (upd2 K 310 0 0))))))))))))) := by
        intro K hK
        rw [baseM K 1 hK (eW _), m_right1 u2_at, ob_some]
        dsimp only
        rw [zo_1, ob_some]
        dsimp only
        rw [if_neg (show ¬ (1 : Int32) = 0 by decide)]
      have bC : mX10_tunnel N (nI t) (nI p) I = (if nI p = 0 then (some (.inl (I 8 t), I)) else (if nI p = 1 then (some (.inl (I 9 t), I)) else (if nI p = 2 then (some (.inl (I 38 t), I)) else (if nI p = 3 then (some (.inl (I 11 t), I)) else (if nI p = 4 then (some (.inl (I 12 t), I)) else (if nI p = 5 then (some (.inl (I 13 t), I)) else (if nI p = 6 then (some (.inl (I 14 t), I)) else (if nI p = 7 then (if (I 37 t) = 0 then (some (.inl 0, I)) else (some (.inl 1, I))) else (if nI p = 8 then (if (I 37 t) = 0 then (some (.inl (-1), I)) else (Option.bind (mJ6_bitCount_0f7a4 (I 37 t) I) (fun r15 => some (.inl r15, I)))) else (if nI p = 9 then (if (I 37 t) = 0 then (some (.inl (-1), I)) else (Option.bind (mX4_metricOf N (I 37 t) I) (fun r19 => some (.inl r19, I)))) else (if nI p = 10 then (if (I 37 t) = 0 then (some (.inl (-1), I)) else (Option.bind (mX4_metricOf N (I 37 t) I) (fun r23 => Option.bind (mX2_leastMetric N 36 (nI t) I) (fun (r25, I26) => some (.inl (r23 - r25), I26))))) else (some (.inr "java/util/NoSuchElementException", I))))))))))))) := by
        unfold mX10_tunnel
        rw [eC I c1, lb_l, ck_n (by omega) (by decide), nI_clamp (by omega)]
      have fin : ∀ (r : Int32) (I1 I2 : gI), mX10_tunnel N (nI t) (nI p) I = some (.inl r, I1) → mX11_tunnel N (nI t) (nI p) I1 = some (r, I2) → I2 310 0 = 0 → Inv (c + 1) I2 → ∃ (rv : Int32 ⊕ String) (I1 : gI) (bb : Int32) (I2 : gI), mX10_tunnel N (nI t) (nI p) I = some (rv, I1) ∧ (∀ E, rv = .inr E → E = xnN) ∧ mX11_tunnel N (nI t) (nI p) I1 = some (bb, I2) ∧ I2 310 0 = kL1 rv ∧ (∀ v, rv = .inl v → v = bb) ∧ Inv (c + 1) I2 := fun r I1 I2 h1 h2 h3 h4 => ⟨.inl r, I1, r, I2, h1, (fun E h => by cases h), h2, h3.trans rfl, (fun v h => by cases h; rfl), h4⟩
      have fin0 : ∀ (r : Int32), mX10_tunnel N (nI t) (nI p) I = some (.inl r, I) → mX11_tunnel N (nI t) (nI p) I = some (r, upd2 I 310 0 0) → ∃ (rv : Int32 ⊕ String) (I1 : gI) (bb : Int32) (I2 : gI), mX10_tunnel N (nI t) (nI p) I = some (rv, I1) ∧ (∀ E, rv = .inr E → E = xnN) ∧ mX11_tunnel N (nI t) (nI p) I1 = some (bb, I2) ∧ I2 310 0 = kL1 rv ∧ (∀ v, rv = .inl v → v = bb) ∧ Inv (c + 1) I2 := fun r h1 h2 => fin r I _ h1 h2 u2_at (hInv.sm s0)
      have hw0 : σ.w t ≠ [] → ¬ wb (σ.w t) = 0 := fun hst h => hst ((wb_0 hn (hww t ht).2.2).mp h)
      have hwp : σ.w t = [] → wb (σ.w t) = 0 := fun hst => by rw [hst]; rfl
      have est : mX11_doesStand 0 (nI t) (upd2 I 310 0 0) = some (if σ.w t = [] then 0 else 1) := m_stand (b := 0) hn m2' hww (by omega) ht
      have hcases : p = 0 ∨ p = 1 ∨ p = 2 ∨ p = 3 ∨ p = 4 ∨ p = 5 ∨ p = 6 ∨ p = 7 ∨ p = 8 ∨ p = 9 ∨ p = 10 := by omega
      rcases hcases with rfl | rfl | rfl | rfl | rfl | rfl | rfl | rfl | rfl | rfl | rfl
      · refine fin0 (nI (ν.T t 0)) ?_ ?_
        · rw [bC, if_pos (show nI 0 = 0 from rfl), show I 8 t = nI (ν.T t 0) from c1.2.2.2.2 t ht 0 (by decide)]
        · rw [bM I m1, if_neg (show ¬ nI 0 = 2 by decide), if_neg (show ¬ nI 0 = 3 by decide), if_neg (show ¬ nI 0 = 4 by decide), if_neg (show ¬ nI 0 = 5 by decide), if_neg (show ¬ nI 0 = 6 by decide), if_neg (show ¬ nI 0 = 7 by decide), if_neg (show ¬ nI 0 = 8 by decide), if_neg (show ¬ nI 0 = 9 by decide), if_neg (show ¬ nI 0 = 10 by decide), n7, ck_n (by omega) (by decide), nI_clamp (by omega), m1'.2.2.2.2 t ht 0 (by decide)]
      · refine fin0 (nI (ν.T t 1)) ?_ ?_
        · rw [bC, if_neg (show ¬ nI 1 = 0 by decide), if_pos (show nI 1 = 1 from rfl), show I 9 t = nI (ν.T t 1) from c1.2.2.2.2 t ht 1 (by decide)]
        · rw [bM I m1, if_neg (show ¬ nI 1 = 2 by decide), if_neg (show ¬ nI 1 = 3 by decide), if_neg (show ¬ nI 1 = 4 by decide), if_neg (show ¬ nI 1 = 5 by decide), if_neg (show ¬ nI 1 = 6 by decide), if_neg (show ¬ nI 1 = 7 by decide), if_neg (show ¬ nI 1 = 8 by decide), if_neg (show ¬ nI 1 = 9 by decide), if_neg (show ¬ nI 1 = 10 by decide), n7, ck_n (by omega) (by decide), nI_clamp (by omega), m1'.2.2.2.2 t ht 1 (by decide)]
      · refine fin0 (nI (σ.bd t)) ?_ ?_
        · rw [bC, if_neg (show ¬ nI 2 = 0 by decide), if_neg (show ¬ nI 2 = 1 by decide), if_pos (show nI 2 = 2 from rfl), e38]
        · rw [bM I m1, if_pos (show nI 2 = 2 from rfl), ix1', ck_n (by omega) (by decide), nI_clamp (by omega), mb _ m2']
      · refine fin0 (nI (ν.T t 3)) ?_ ?_
        · rw [bC, if_neg (show ¬ nI 3 = 0 by decide), if_neg (show ¬ nI 3 = 1 by decide), if_neg (show ¬ nI 3 = 2 by decide), if_pos (show nI 3 = 3 from rfl), show I 11 t = nI (ν.T t 3) from c1.2.2.2.2 t ht 3 (by decide)]
        · rw [bM I m1, if_neg (show ¬ nI 3 = 2 by decide), if_pos (show nI 3 = 3 from rfl), n7, ck_n (by omega) (by decide), nI_clamp (by omega), m1'.2.2.2.2 t ht 3 (by decide)]
      · refine fin0 (nI (ν.T t 4)) ?_ ?_
        · rw [bC, if_neg (show ¬ nI 4 = 0 by decide), if_neg (show ¬ nI 4 = 1 by decide), if_neg (show ¬ nI 4 = 2 by decide), if_neg (show ¬ nI 4 = 3 by decide), if_pos (show nI 4 = 4 from rfl), show I 12 t = nI (ν.T t 4) from c1.2.2.2.2 t ht 4 (by decide)]
        · rw [bM I m1, if_neg (show ¬ nI 4 = 2 by decide), if_neg (show ¬ nI 4 = 3 by decide), if_pos (show nI 4 = 4 from rfl), n7, ck_n (by omega) (by decide), nI_clamp (by omega), m1'.2.2.2.2 t ht 4 (by decide)]
      · refine fin0 (nI (ν.T t 5)) ?_ ?_
        · rw [bC, if_neg (show ¬ nI 5 = 0 by decide), if_neg (show ¬ nI 5 = 1 by decide), if_neg (show ¬ nI 5 = 2 by decide), if_neg (show ¬ nI 5 = 3 by decide), if_neg (show ¬ nI 5 = 4 by decide), if_pos (show nI 5 = 5 from rfl), show I 13 t = nI (ν.T t 5) from c1.2.2.2.2 t ht 5 (by decide)]
        · rw [bM I m1, if_neg (show ¬ nI 5 = 2 by decide), if_neg (show ¬ nI 5 = 3 by decide), if_neg (show ¬ nI 5 = 4 by decide), if_pos (show nI 5 = 5 from rfl), n7, ck_n (by omega) (by decide), nI_clamp (by omega), m1'.2.2.2.2 t ht 5 (by decide)]
      · refine fin0 (nI (ν.T t 6)) ?_ ?_
        · rw [bC, if_neg (show ¬ nI 6 = 0 by decide), if_neg (show ¬ nI 6 = 1 by decide), if_neg (show ¬ nI 6 = 2 by decide), if_neg (show ¬ nI 6 = 3 by decide), if_neg (show ¬ nI 6 = 4 by decide), if_neg (show ¬ nI 6 = 5 by decide), if_pos (show nI 6 = 6 from rfl), show I 14 t = nI (ν.T t 6) from c1.2.2.2.2 t ht 6 (by decide)]
        · rw [bM I m1, if_neg (show ¬ nI 6 = 2 by decide), if_neg (show ¬ nI 6 = 3 by decide), if_neg (show ¬ nI 6 = 4 by decide), if_neg (show ¬ nI 6 = 5 by decide), if_pos (show nI 6 = 6 from rfl), n7, ck_n (by omega) (by decide), nI_clamp (by omega), m1'.2.2.2.2 t ht 6 (by decide)]
      · by_cases hst : σ.w t = []
        · refine fin0 0 ?_ ?_
          · rw [bC, if_neg (show ¬ nI 7 = 0 by decide), if_neg (show ¬ nI 7 = 1 by decide), if_neg (show ¬ nI 7 = 2 by decide), if_neg (show ¬ nI 7 = 3 by decide), if_neg (show ¬ nI 7 = 4 by decide), if_neg (show ¬ nI 7 = 5 by decide), if_neg (show ¬ nI 7 = 6 by decide), if_pos (show nI 7 = 7 from rfl), e37, if_pos (hwp hst)]
          · rw [bM I m1, if_neg (show ¬ nI 7 = 2 by decide), if_neg (show ¬ nI 7 = 3 by decide), if_neg (show ¬ nI 7 = 4 by decide), if_neg (show ¬ nI 7 = 5 by decide), if_neg (show ¬ nI 7 = 6 by decide), if_pos (show nI 7 = 7 from rfl), est, if_pos hst, ob_some, if_pos rfl]
        · refine fin0 1 ?_ ?_
          · rw [bC, if_neg (show ¬ nI 7 = 0 by decide), if_neg (show ¬ nI 7 = 1 by decide), if_neg (show ¬ nI 7 = 2 by decide), if_neg (show ¬ nI 7 = 3 by decide), if_neg (show ¬ nI 7 = 4 by decide), if_neg (show ¬ nI 7 = 5 by decide), if_neg (show ¬ nI 7 = 6 by decide), if_pos (show nI 7 = 7 from rfl), e37, if_neg (hw0 hst)]
          · rw [bM I m1, if_neg (show ¬ nI 7 = 2 by decide), if_neg (show ¬ nI 7 = 3 by decide), if_neg (show ¬ nI 7 = 4 by decide), if_neg (show ¬ nI 7 = 5 by decide), if_neg (show ¬ nI 7 = 6 by decide), if_pos (show nI 7 = 7 from rfl), est, if_neg hst, ob_some, if_neg (show ¬ (1 : Int32) = 0 by decide)]
      · by_cases hst : σ.w t = []
        · refine fin0 (-1) ?_ ?_
          · rw [bC, if_neg (show ¬ nI 8 = 0 by decide), if_neg (show ¬ nI 8 = 1 by decide), if_neg (show ¬ nI 8 = 2 by decide), if_neg (show ¬ nI 8 = 3 by decide), if_neg (show ¬ nI 8 = 4 by decide), if_neg (show ¬ nI 8 = 5 by decide), if_neg (show ¬ nI 8 = 6 by decide), if_neg (show ¬ nI 8 = 7 by decide), if_pos (show nI 8 = 8 from rfl), e37, if_pos (hwp hst)]
          · rw [bM I m1, if_neg (show ¬ nI 8 = 2 by decide), if_neg (show ¬ nI 8 = 3 by decide), if_neg (show ¬ nI 8 = 4 by decide), if_neg (show ¬ nI 8 = 5 by decide), if_neg (show ¬ nI 8 = 6 by decide), if_neg (show ¬ nI 8 = 7 by decide), if_pos (show nI 8 = 8 from rfl), ix10', ck_n (by omega) (by decide), nI_clamp (by omega), ml _ m2', if_pos hst]
        · obtain ⟨s, hs, es, hps, -⟩ := wb_nat (σ.w t) (g.nd ht) (fun l hl => by have := (hww t ht).2.2 l hl; have := hn.2.2.1; omega)
          refine fin0 (nI (σ.w t).length) ?_ ?_
          · rw [bC, if_neg (show ¬ nI 8 = 0 by decide), if_neg (show ¬ nI 8 = 1 by decide), if_neg (show ¬ nI 8 = 2 by decide), if_neg (show ¬ nI 8 = 3 by decide), if_neg (show ¬ nI 8 = 4 by decide), if_neg (show ¬ nI 8 = 5 by decide), if_neg (show ¬ nI 8 = 6 by decide), if_neg (show ¬ nI 8 = 7 by decide), if_pos (show nI 8 = 8 from rfl), e37, if_neg (hw0 hst), es, c_bitsW hs, ob_some, hps]
          · rw [bM I m1, if_neg (show ¬ nI 8 = 2 by decide), if_neg (show ¬ nI 8 = 3 by decide), if_neg (show ¬ nI 8 = 4 by decide), if_neg (show ¬ nI 8 = 5 by decide), if_neg (show ¬ nI 8 = 6 by decide), if_neg (show ¬ nI 8 = 7 by decide), if_pos (show nI 8 = 8 from rfl), ix10', ck_n (by omega) (by decide), nI_clamp (by omega), ml _ m2', if_neg hst]
      · by_cases hst : σ.w t = []
        · refine fin0 (-1) ?_ ?_
          · rw [bC, if_neg (show ¬ nI 9 = 0 by decide), if_neg (show ¬ nI 9 = 1 by decide), if_neg (show ¬ nI 9 = 2 by decide), if_neg (show ¬ nI 9 = 3 by decide), if_neg (show ¬ nI 9 = 4 by decide), if_neg (show ¬ nI 9 = 5 by decide), if_neg (show ¬ nI 9 = 6 by decide), if_neg (show ¬ nI 9 = 7 by decide), if_neg (show ¬ nI 9 = 8 by decide), if_pos (show nI 9 = 9 from rfl), e37, if_pos (hwp hst)]
          · rw [bM I m1, if_neg (show ¬ nI 9 = 2 by decide), if_neg (show ¬ nI 9 = 3 by decide), if_neg (show ¬ nI 9 = 4 by decide), if_neg (show ¬ nI 9 = 5 by decide), if_neg (show ¬ nI 9 = 6 by decide), if_neg (show ¬ nI 9 = 7 by decide), if_neg (show ¬ nI 9 = 8 by decide), if_pos (show nI 9 = 9 from rfl), est, if_pos hst, ob_some, if_pos rfl]
        · refine fin0 (nI (mt ν (σ.w t))) ?_ ?_
          · rw [bC, if_neg (show ¬ nI 9 = 0 by decide), if_neg (show ¬ nI 9 = 1 by decide), if_neg (show ¬ nI 9 = 2 by decide), if_neg (show ¬ nI 9 = 3 by decide), if_neg (show ¬ nI 9 = 4 by decide), if_neg (show ¬ nI 9 = 5 by decide), if_neg (show ¬ nI 9 = 6 by decide), if_neg (show ¬ nI 9 = 7 by decide), if_neg (show ¬ nI 9 = 8 by decide), if_pos (show nI 9 = 9 from rfl), e37, if_neg (hw0 hst), c_metric hn c1 (by omega) (g.nd ht) (hww t ht).2.2, ob_some]
          · rw [bM I m1, if_neg (show ¬ nI 9 = 2 by decide), if_neg (show ¬ nI 9 = 3 by decide), if_neg (show ¬ nI 9 = 4 by decide), if_neg (show ¬ nI 9 = 5 by decide), if_neg (show ¬ nI 9 = 6 by decide), if_neg (show ¬ nI 9 = 7 by decide), if_neg (show ¬ nI 9 = 8 by decide), if_pos (show nI 9 = 9 from rfl), est, if_neg hst, ob_some, if_neg (show ¬ (1 : Int32) = 0 by decide), show mX11_wayBits N 0 (nI t) (upd2 I 310 0 0) = some (wb (σ.w t)) from m_wb (b := 0) hn m2' hww (by omega) (by omega) ht, ob_some, m_metric hn m1' (by omega) (g.nd ht) (hww t ht).2.2, ob_some]
      · by_cases hst : σ.w t = []
        · refine fin0 (-1) ?_ ?_
          · rw [bC, if_neg (show ¬ nI 10 = 0 by decide), if_neg (show ¬ nI 10 = 1 by decide), if_neg (show ¬ nI 10 = 2 by decide), if_neg (show ¬ nI 10 = 3 by decide), if_neg (show ¬ nI 10 = 4 by decide), if_neg (show ¬ nI 10 = 5 by decide), if_neg (show ¬ nI 10 = 6 by decide), if_neg (show ¬ nI 10 = 7 by decide), if_neg (show ¬ nI 10 = 8 by decide), if_neg (show ¬ nI 10 = 9 by decide), if_pos (show nI 10 = 10 from rfl), e37, if_pos (hwp hst)]
          · unfold mX11_stretch at bM
            rw [bM I m1, if_neg (show ¬ nI 10 = 2 by decide), if_neg (show ¬ nI 10 = 3 by decide), if_neg (show ¬ nI 10 = 4 by decide), if_neg (show ¬ nI 10 = 5 by decide), if_neg (show ¬ nI 10 = 6 by decide), if_neg (show ¬ nI 10 = 7 by decide), if_neg (show ¬ nI 10 = 8 by decide), if_neg (show ¬ nI 10 = 9 by decide), if_pos (show nI 10 = 10 from rfl), est, if_pos hst, ob_some, if_pos rfl, ob_some]
        · obtain ⟨I5, e5, f5⟩ := c_least (N := N) (u := 36) (σ := σ) hn c1 c2.1 (by omega) ht
          have sm5 : Sm I I5 := Sm.fr f5 (by simp [sc])
          have m5 := m1.sm sm5
          have m5' : NetM ν (upd2 I5 310 0 0) := m5.sm s0
          have h5' : MS ν 317 0 σ (upd2 I5 310 0 0) := (m2.c (f5 317 (by simp)) : MS ν 317 0 σ I5).c (u2_c (by decide))
          obtain ⟨I6, f6, -, hres⟩ := m_any (N := N) (b := 0) hn m5' h5' hww (by omega) hN ht
          rcases hres with ⟨q, hq, e6, k6⟩ | ⟨-, hno⟩
          rotate_left
          · rcases (g.1 t ht).2.2 with h | h
            · exact absurd h hst
            · exact absurd h (hno _)
          have eD : Dm ν (opn ν σ t) (ν.T t 1) (ν.T t 6) (ν.T t 0) = mt ν q := Dm_best hn hT.2.2.2.2.2.2.2.2.2 hq
          have m6 := m5'.fb f6
          have h6 : MS ν 317 0 σ I6 := h5'.c (f6.1 317 (by simp))
          refine fin (nI (mt ν (σ.w t)) - nI (mt ν q)) I5 I6 ?_ ?_ (by rw [f6.2 0 (by simp), u2_at]) (hInv.sm (sm5.tr (s0.tr (Sm.fb f6))))
          · rw [bC, if_neg (show ¬ nI 10 = 0 by decide), if_neg (show ¬ nI 10 = 1 by decide), if_neg (show ¬ nI 10 = 2 by decide), if_neg (show ¬ nI 10 = 3 by decide), if_neg (show ¬ nI 10 = 4 by decide), if_neg (show ¬ nI 10 = 5 by decide), if_neg (show ¬ nI 10 = 6 by decide), if_neg (show ¬ nI 10 = 7 by decide), if_neg (show ¬ nI 10 = 8 by decide), if_neg (show ¬ nI 10 = 9 by decide), if_pos (show nI 10 = 10 from rfl), e37, if_neg (hw0 hst), c_metric hn c1 (by omega) (g.nd ht) (hww t ht).2.2, ob_some, e5, ob_some, eD]
          · unfold mX11_stretch at bM
            rw [bM I5 m5, if_neg (show ¬ nI 10 = 2 by decide), if_neg (show ¬ nI 10 = 3 by decide), if_neg (show ¬ nI 10 = 4 by decide), if_neg (show ¬ nI 10 = 5 by decide), if_neg (show ¬ nI 10 = 6 by decide), if_neg (show ¬ nI 10 = 7 by decide), if_neg (show ¬ nI 10 = 8 by decide), if_neg (show ¬ nI 10 = 9 by decide), if_pos (show nI 10 = 10 from rfl), show mX11_doesStand 0 (nI t) (upd2 I5 310 0 0) = some (if σ.w t = [] then 0 else 1) from m_stand (b := 0) hn h5' hww (by omega) ht, if_neg hst, ob_some, if_neg (show ¬ (1 : Int32) = 0 by decide), show mX11_hasAny N 0 (nI t) (upd2 I5 310 0 0) = some (1, I6) from e6, ob_some]
            dsimp only
            rw [if_neg (show ¬ (1 : Int32) = 0 by decide), show mX11_wayBits N 0 (nI t) I6 = some (wb (σ.w t)) from m_wb (b := 0) hn h6 hww (by omega) (by omega) ht, ob_some, m_metric hn m6 (by omega) (g.nd ht) (hww t ht).2.2, ob_some, k6, ob_some]
    · refine ⟨.inr xnN, I, 0, upd2 (upd2 I 310 0 0) 310 0 1, ?_, (fun E h => by cases h; rfl), ?_, u2_at, (fun v h => by cases h), hInv.sm s0.u0⟩
      · have ne : ∀ k, k ≤ 10 → ¬ a2 = nI k := fun k hk => hno k (by omega) hk
        unfold mX10_tunnel
        rw [eC I c1, lb_l, ck_n (by omega) (by decide), if_neg (show ¬ a2 = 0 from ne 0 (by omega)), if_neg (show ¬ a2 = 1 from ne 1 (by omega)), if_neg (show ¬ a2 = 2 from ne 2 (by omega)), if_neg (show ¬ a2 = 3 from ne 3 (by omega)), if_neg (show ¬ a2 = 4 from ne 4 (by omega)), if_neg (show ¬ a2 = 5 from ne 5 (by omega)), if_neg (show ¬ a2 = 6 from ne 6 (by omega)), if_neg (show ¬ a2 = 7 from ne 7 (by omega)), if_neg (show ¬ a2 = 8 from ne 8 (by omega)), if_neg (show ¬ a2 = 9 from ne 9 (by omega)), if_neg (show ¬ a2 = 10 from ne 10 (by omega))]
      · rw [baseM I 0 m1 (eW _), m_right0 u2_at (by decide), ob_some]
        dsimp only
        rw [zo_0, ob_some]
        dsimp only
        rw [if_pos rfl]
  · refine ⟨.inr xnN, I, 0, upd2 (upd2 I 310 0 0) 310 0 1, ?_, (fun E h => by cases h; rfl), ?_, u2_at, (fun v h => by cases h), hInv.sm s0.u0⟩
    · unfold mX10_tunnel
      rw [eC I c1, lb_r]
    · unfold mX11_tunnel
      rw [eM _ (m1.sm s0) u2_at, ob_some]
      dsimp only
      rw [if_pos rfl]
end Steps12
