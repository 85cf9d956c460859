/-! a link fails -/
def upS (σ : St) (x : Int32) : St := (σ.w, σ.bd, x)
def onS (σ : St) (l t : Nat) : Bool := decide (l ∈ σ.w t)
def snd9 (σ : St) (t : Nat) : Bool := decide (σ.w t ≠ [])
/-- the state as a link breaks -/
def brk (ν : Nt) (σ : St) (l : Nat) : St := dpW (upS σ (σ.up &&& (((1 : Int32) <<< (nI l &&& 31)) ^^^ (-1)))) (mk9 (onS σ l) ν.tn)
section Fail
variable {ν : Nt} {σ σ' : St} {I : gI} {N u b : Nat}
theorem and_dif {a : Nat} (h : a < 512) (x : Int32) : ∃ s, s < 512 ∧ nI a &&& (x ^^^ (-1)) = nI s := by
  refine ⟨mk9 (fun i => a.testBit i && !bt x i) 9, mk9_lt 9, b_ext fun i hi => ?_⟩
  rw [b_not hi, b_nI hi, b_nI hi, mk9_tb]
  cases h1 : a.testBit i with
  | false => simp
  | true =>
    have : i < 9 := tb_lt (n := 9) h h1
    simp [this]
theorem mk9_512 (hn : WfN ν) (p : Nat → Bool) : mk9 p ν.tn < 512 := by
  have hpow : (2 : Nat) ^ ν.tn ≤ 2 ^ 9 := Nat.pow_le_pow_right (by decide) hn.2.2.2.1
  have h29 : (2 : Nat) ^ 9 = 512 := rfl
  have := mk9_lt (p := p) ν.tn
  omega
theorem c_stands (hn : WfN ν) (hI : NetC ν I) (hs : CS ν u σ I) (hw : WfW ν σ) (hN : 100 ≤ N) : mX2_standing N u I = some (nI (mk9 (snd9 σ) ν.tn)) := by
  have htn := hn.2.2.2.1
  obtain ⟨x, hP, e⟩ := loopP (F := fun n v i => mX2_standing_4 u I n v i) (b := ν.tn) (out := id)
    (P := fun k v => v = bm (snd9 σ) k)
    (fun n v _ => by
      show mX2_standing_4 u I (n + 1) v (nI ν.tn) = some v
      rw [mX2_standing_4, hI.2.2.1, if_pos (nI_le (Nat.le_refl _) (by omega))])
    (fun n k v hk hP => by
      refine ⟨_, ?_, rfl⟩
      show mX2_standing_4 u I (n + 1) v (nI k) = mX2_standing_4 u I n _ (nI (k + 1))
      rw [mX2_standing_4, hI.2.2.1, if_neg (nI_ge hk (by omega)), ck_n (by omega) (by decide), nI_clamp (by omega), (hs.2 k hk).1, nI_1, bm, hP]
      unfold snd9
      by_cases h : σ.w k = []
      · rw [if_pos ((wb_0 hn (hw k hk).2.2).mpr h)]; simp [h]
      · rw [if_neg (fun e => h ((wb_0 hn (hw k hk).2.2).mp e))]; simp [h])
    N 0 0 (Nat.zero_le _) (by omega) rfl
  unfold mX2_standing
  rw [show mX2_standing_4 u I N 0 0 = some x from e, ob_some, hP, mk9_bm _ (by omega)]
theorem m_stands (hn : WfN ν) (hI : NetM ν I) (hs : MS ν 317 b σ I) (hw : WfW ν σ) (hb : b ≤ 82) (hN : 100 ≤ N) : mX11_standing N (nI b) I = some (nI (mk9 (snd9 σ) ν.tn)) := by
  have htn := hn.2.2.2.1
  obtain ⟨x, hP, e⟩ := loopP (F := fun n v i => mX11_standing_4 (nI b) I n v i) (b := ν.tn) (out := id)
    (P := fun k v => v = bm (snd9 σ) k)
    (fun n v _ => by
      show mX11_standing_4 (nI b) I (n + 1) v (nI ν.tn) = some v
      rw [mX11_standing_4, hI.2.2.1, if_pos (nI_le (Nat.le_refl _) (by omega))])
    (fun n k v hk hP => by
      refine ⟨_, ?_, rfl⟩
      show mX11_standing_4 (nI b) I (n + 1) v (nI k) = mX11_standing_4 (nI b) I n _ (nI (k + 1))
      rw [mX11_standing_4, hI.2.2.1, if_neg (nI_ge hk (by omega)), m_stand hn hs hw hb hk, ob_some, nI_1, bm, hP, or_z]
      unfold snd9
      by_cases h : σ.w k = []
      · rw [if_pos h, if_pos rfl]; simp [h]
      · rw [if_neg h, if_neg (by decide)]; simp [h])
    N 0 0 (Nat.zero_le _) (by omega) rfl
  unfold mX11_standing
  rw [show mX11_standing_4 (nI b) I N 0 0 = some x from e, ob_some, hP, mk9_bm _ (by omega)]
theorem Gd_brk (hn : WfN ν) (g : Gd ν σ) {l : Nat} (hl : l < ν.ln) : Gd ν (brk ν σ l) := by
  have hln := hn.2.2.1
  have hg : ∀ t, t < ν.tn → (mk9 (onS σ l) ν.tn).testBit t = decide (l ∈ σ.w t) := fun t ht => by rw [mk9_tb, decide_eq_true ht, Bool.true_and]; rfl
  refine ⟨fun i hi => ⟨(g.1 i hi).1, (g.1 i hi).2.1, ?_⟩, fun m hm => ?_⟩
  · unfold brk
    rw [dpW_w, hg i hi]
    by_cases h : l ∈ σ.w i
    · left; simp [h]
    · rw [if_neg (by simp [h])]
      rcases (g.1 i hi).2.2 with e | e
      · exact Or.inl e
      · refine Or.inr ⟨e.1, e.2.1, e.2.2.1, fun m hm => ?_⟩
        have hml := chn_lt e.1 m hm
        have h1 := e.2.2.2 m hm
        have hne : m ≠ l := fun e => h (e ▸ hm)
        unfold opn at h1 ⊢
        simp only [Bool.and_eq_true] at h1 ⊢
        refine ⟨?_, h1.2⟩
        show bt (σ.up &&& (((1 : Int32) <<< (nI l &&& 31)) ^^^ (-1))) m = true
        rw [b_not (by omega), b_sh1 (by omega) (by omega), h1.1]
        simp [hne]
  · have h1 : Gd ν (dpW σ (mk9 (onS σ l) ν.tn)) := Gd_dp hn g _
    exact h1.2 m hm
theorem c_break (hn : WfN ν) (hI : NetC ν I) (hs : CS ν u σ I) (hw : WfW ν σ) (hN : 100 ≤ N) (hu : 35 < u) {l : Nat} (hl : l < ν.ln) : ∃ I', mX2_breakLink N u (nI l) I = some (nI (mk9 (onS σ l) ν.tn), I') ∧ Fr [u, u + 1] I I' ∧ CS ν u (brk ν σ l) I' := by
  have htn := hn.2.2.2.1
  obtain ⟨I3, e3, f3, cs3⟩ := c_drop (N := N) hn hI hs hN hu (mk9 (onS σ l) ν.tn)
  have e0 : mX2_tunnelsOn N u (nI l) I = some (nI (mk9 (onS σ l) ν.tn)) := by
    rw [c_on hn hI hs hw hN hl, ← mk9_bm _ (by omega)]; rfl
  refine ⟨upd2 I3 u 2 ((I3 u 2) &&& (((1 : Int32) <<< (nI l &&& 31)) ^^^ (-1))), ?_, (f3.mono (by simp)).u2 (by simp), ?_, fun t ht => ?_⟩
  · unfold mX2_breakLink
    rw [e0, ob_some, e3, ob_some]
  · rw [u2_at, cs3.1]; rfl
  · rw [u2_c (by omega), u2_c (by omega)]; exact cs3.2 t ht
theorem WfW_dp (hw : WfW ν σ) (s : Nat) : WfW ν (dpW σ s) := fun t ht => by
  rw [dpW_w, dpW_bd]
  by_cases h : s.testBit t = true
  · rw [if_pos h]; exact ⟨(hw t ht).1, by simp, fun l hl => by cases hl⟩
  · rw [if_neg h]; exact hw t ht
theorem ms_off (hn : WfN ν) (hw : WfW ν σ) (hM : MS ν 317 b σ I) {t : Nat} (ht : t < ν.tn) : MS ν 317 b (stW σ t []) (upd2 I 317 (b + 10 + t) (-1)) := by
  have htn := hn.2.2.2.1
  refine ⟨by rw [u2_ne (by omega)]; exact hM.1, fun i hi => ⟨by rw [u2_ne (by omega)]; exact (hM.2 i hi).1, ?_, fun k hk => ?_⟩⟩
  · rw [stW_w]
    by_cases h : i = t
    · subst h; rw [u2_at, if_pos rfl, if_pos rfl]
    · rw [u2_ne (by omega), if_neg h]; exact (hM.2 i hi).2.1
  · by_cases h : i = t
    · subst h
      have e0 : (stW σ i []).w i = [] := by rw [stW_w, if_pos rfl]
      rw [e0] at hk
      cases hk
    · have e0 : (stW σ t []).w i = σ.w i := by rw [stW_w, if_neg h]
      have hk' : k < (σ.w i).length := by rw [e0] at hk; exact hk
      rw [u2_ne (by omega), (hM.2 i hi).2.2 k hk']
      simp only [e0]
theorem dp_step {p : Nat → Bool} {k : Nat} (h : p k = true) : stW (dpW σ (mk9 p k)) k [] = dpW σ (mk9 p (k + 1)) := by
  unfold stW dpW
  congr 1
  funext i
  show (if i = k then [] else (if (mk9 p k).testBit i = true then [] else σ.w i)) = (if (mk9 p (k + 1)).testBit i = true then [] else σ.w i)
  rw [mk9_tb, mk9_tb]
  by_cases e : i = k
  · subst e; simp [h]
  · have : (decide (i < k + 1)) = decide (i < k) := by simp; omega
    rw [if_neg e, this]
theorem m_fails (hn : WfN ν) (hN : 100000000000 ≤ N) (hb : b ≤ 82) {l n : Nat} (hl : l < ν.ln) (g : Gd ν σ) (hI : NetM ν I) (hs : MS ν 317 b σ I) (hS : Stl ν 9 (mk9 (onS σ l) ν.tn) (brk ν σ l) n σ') : ∃ I', mX11_fails N (nI b) (nI l) I = some I' ∧ MS ν 317 b σ' I' ∧ FS b I I' := by
  have htn := hn.2.2.2.1
  have hln := hn.2.2.1
  have hww := g.wf hn
  obtain ⟨x, hx⟩ : ∃ x, x = σ.up &&& (((1 : Int32) <<< (nI l &&& 31)) ^^^ (-1)) := ⟨_, rfl⟩
  have hs1 : MS ν 317 b (upS σ x) (upd2 I 317 b x) := ⟨u2_at, fun t ht => by rw [u2_ne (by omega), u2_ne (by omega)]; exact ⟨(hs.2 t ht).1, (hs.2 t ht).2.1, fun k hk => by rw [u2_ne (by omega)]; exact (hs.2 t ht).2.2 k hk⟩⟩
  have hw1 : WfW ν (upS σ x) := hww
  obtain ⟨⟨v, s⟩, hP, e⟩ := loopP (F := fun n (v : Int32 × gI) i => mX11_fails_21 N (nI b) (nI l) n v.1 i v.2) (b := ν.tn) (out := fun v => (v.1, v.2))
    (P := fun k v => v.1 = bm (onS σ l) k ∧ FS b I v.2 ∧ MS ν 317 b (dpW (upS σ x) (mk9 (onS σ l) k)) v.2)
    (fun n v hP => by
      show mX11_fails_21 N (nI b) (nI l) (n + 1) v.1 (nI ν.tn) v.2 = some (v.1, v.2)
      rw [mX11_fails_21, (hI.fs hP.2.1).2.2.1, if_pos (nI_le (Nat.le_refl _) (by omega))])
    (fun n k v hk hP => by
      have hIk := hI.fs hP.2.1
      have ek : (dpW (upS σ x) (mk9 (onS σ l) k)).w k = σ.w k := by
        rw [dpW_w, mk9_tb]
        simp
        rfl
      have d : mX11_wayBits N (nI b) (nI k) v.2 = some (wb (σ.w k)) := by rw [m_wb hn hP.2.2 (WfW_dp hw1 _) hb (by omega) hk, ek]
      have key : mX11_fails_21 N (nI b) (nI l) (n + 1) v.1 (nI k) v.2 = if l ∈ σ.w k then mX11_fails_21 N (nI b) (nI l) n (v.1 ||| ((1 : Int32) <<< (nI k &&& 31))) (nI (k + 1)) (upd2 v.2 317 (b + 10 + k) (-1)) else mX11_fails_21 N (nI b) (nI l) n v.1 (nI (k + 1)) v.2 := by
        rw [mX11_fails_21, hIk.2.2.1, if_neg (nI_ge hk (by omega)), d, ob_some, ix10, ck_n (by omega) (by decide), nI_clamp (by omega), nI_1]
        by_cases h : l ∈ σ.w k
        · rw [if_neg (fun e => by rw [mb0 (by omega), wb_t hn hww hk (by omega)] at e; simp [h] at e), if_pos h]
        · rw [if_pos ((mb0 (by omega) _).mpr (by rw [wb_t hn hww hk (by omega)]; simp [h])), if_neg h]
      by_cases h : l ∈ σ.w k
      · have hp : onS σ l k = true := decide_eq_true h
        rw [if_pos h] at key
        refine ⟨(v.1 ||| ((1 : Int32) <<< (nI k &&& 31)), upd2 v.2 317 (b + 10 + k) (-1)), key, ?_, hP.2.1.u (by omega) (by omega), ?_⟩
        · show v.1 ||| ((1 : Int32) <<< (nI k &&& 31)) = bm (onS σ l) (k + 1)
          rw [bm, if_pos hp, hP.1]
        · rw [← dp_step hp]
          exact ms_off hn (WfW_dp hw1 _) hP.2.2 hk
      · have hp : ¬ onS σ l k = true := by unfold onS; simp [h]
        rw [if_neg h] at key
        refine ⟨v, key, ?_, hP.2.1, ?_⟩
        · rw [bm, if_neg hp, hP.1]
        · rw [mk9, if_neg hp]; exact hP.2.2)
    N 0 (0, upd2 I 317 b x) (Nat.zero_le _) (by omega) ⟨rfl, FS.rf.u (by omega) (by omega), by
      have e : dpW (upS σ x) (mk9 (onS σ l) 0) = upS σ x := by
        unfold dpW mk9
        simp
      rw [e]; exact hs1⟩
  have hv : v = nI (mk9 (onS σ l) ν.tn) := by rw [← mk9_bm _ (by omega)]; exact hP.1
  have hbrk : dpW (upS σ x) (mk9 (onS σ l) ν.tn) = brk ν σ l := by unfold brk; rw [hx]
  have hM := hP.2.2
  rw [hbrk] at hM
  obtain ⟨I', e2, hM', f', -⟩ := m_settle (N := N) hn hN hb (Gd_brk hn g hl) (hI.fs hP.2.1) hM (mk9_lt _) hS
  refine ⟨I', ?_, hM', hP.2.1.tr f'⟩
  unfold mX11_fails
  rw [Int32.add_zero, ck_n (by omega) (by decide), nI_clamp (by omega), hs.1, nm_n, ← hx, show mX11_fails_21 N (nI b) (nI l) N 0 0 (upd2 I 317 b x) = some (v, s) from e, ob_some]
  dsimp only
  rw [hv, e2, ob_some]
end Fail
section Steps7
variable {N : Nat}
set_option maxHeartbeats 1000000 in
theorem s_fail (hN : 100000000000 ≤ N) : St_fail N Inv := by
  intro c I J a1 hc hInv
  obtain ⟨⟨ν, σ, ks, vs, hP⟩, mv⟩ := id hInv
  obtain ⟨hn, g, c1, m1, c2, m2, ac, sg, im, tp, ct⟩ := id hP
  have hln := hn.2.2.1
  have hww := g.wf hn
  have s0 : ∀ {K : gI}, Sm K (upd2 K 310 0 0) := Sm.rf.u0
  rcases lnk_ck hn a1 with ⟨l, hl, rfl, eC, eM⟩ | ⟨eC, eM⟩
  · have baseC : mX10_fail N (nI l) I = if bt σ.up l = true then (Option.bind (mX0_keep N 36 I) (fun I4 => Option.bind (mX2_standing N 36 I4) (fun r6 => Option.bind (mX2_breakLink N 36 (nI l) I4) (fun (r8, I9) => Option.bind (mX2_settle N 36 r8 I9) (fun (r11, I12) => Option.bind (mX2_standing N 36 I12) (fun r14 => Option.bind (mJ6_bitCount_0f7a4 (r6 &&& (r14 ^^^ (-1))) I12) (fun r16 => some (.inl r16, I12)))))))) else some (.inl (-1), upd2 I 0 4 (I 0 4 + 1)) := by
      unfold mX10_fail
      rw [eC I c1, lb_l, show I 36 2 = σ.up from c2.1]
      cases h : bt σ.up l with
      | true => rw [if_neg (fun e => by rw [(cb0 (by omega) _).mp e] at h; cases h), if_pos rfl]
      | false => rw [if_pos ((cb0 (by omega) _).mpr h), if_neg (by decide)]; rfl
    have baseM : ∀ K : gI, NetM ν K → MS ν 317 0 σ K → mX11_fail N (nI l) K = if bt σ.up l = true then (Option.bind (mX11_keeps N (upd2 K 310 0 0)) (fun I8 => Option.bind (mX11_standing N 0 I8) (fun r10 => Option.bind (mX11_fails N 0 (nI l) I8) (fun I12 => Option.bind (mX11_standing N 0 I12) (fun r14 => Option.bind (mX11_bits N (r10 &&& (r14 ^^^ (-1))) I12) (fun r16 => some (r16, I12))))))) else some (-1, upd2 (upd2 K 310 0 0) 312 1 ((upd2 K 310 0 0) 312 1 + 1)) := by
      intro K hm hk
      have hk' : MS ν 317 0 σ (upd2 K 310 0 0) := hk.c (u2_c (by decide))
      have d : mX11_isUp 0 (nI l) (upd2 K 310 0 0) = some (if bt σ.up l = true then 1 else 0) := m_up (b := 0) hk' (by omega) (by omega)
      unfold mX11_fail
      rw [eM _ (hm.sm s0) u2_at, ob_some]
      dsimp only
      rw [if_neg (by decide), d, ob_some]
      cases h : bt σ.up l with
      | true =>
        rw [if_pos rfl, if_neg (by decide), if_pos rfl]
      | false =>
        simp only [Bool.false_eq_true, if_false]
        rw [if_pos trivial]
        rfl
    cases h : bt σ.up l with
    | false =>
      have hf : ¬ bt σ.up l = true := by rw [h]; decide
      have hN1 : NetM ν (upd2 I 0 4 (I 0 4 + 1)) := m1.fr (X := [0]) (Fr.rf.u2 (by simp)) (by simp) (by simp) (by simp)
      have hM1 : MS ν 317 0 σ (upd2 I 0 4 (I 0 4 + 1)) := m2.c (u2_c (by decide))
      refine ⟨.inl (-1), upd2 I 0 4 (I 0 4 + 1), -1, _, by rw [baseC, if_neg hf], (fun E h => by cases h), by rw [baseM _ hN1 hM1, if_neg hf], ?_, (fun v h => by cases h; rfl), Inv_ref hP mv Sm.rf s0⟩
      rw [u2_c (by decide), u2_at]; rfl
    | true =>
      obtain ⟨I4, e4, rg4, cs4, c4, f4, s4, hi4, z4⟩ := c_act (N := N) (by omega) hP Fr.rf
      obtain ⟨I9, e9, f9, cs9⟩ := c_break (N := N) (u := 36) hn c4 cs4 hww (by omega) (by omega) hl
      have c9 := c4.fr f9 (by simp)
      have g9 := Gd_brk hn g hl
      obtain ⟨n, σ', I12, e12, hS, cs12, g12, f12, -, -⟩ := c_settle (N := N) (u := 36) hn (by omega) (by omega) g9 c9 cs9 (mk9_lt _)
      have c12 := c9.fr f12 (by simp)
      obtain ⟨d, hd, ed⟩ := and_dif (mk9_512 hn (snd9 σ)) (nI (mk9 (snd9 σ') ν.tn))
      have hi : ∀ c, 310 ≤ c → I12 c = I c := fun c hc => by rw [f12 c (by simp; omega), f9 c (by simp; omega), hi4 c hc]
      have s12 : Sm2 I I12 := (s4.tr (Sm2.fr f9 (by simp [sc]))).tr (Sm2.fr f12 (by simp [sc]))
      have hN12 : NetM ν I12 := m1.sm2 s12
      have hM12 : MS ν 317 0 σ I12 := m2.c (hi 317 (by omega))
      obtain ⟨I8, e8, hR8, lo8, s8, z8, k8, hM8, hN8, h08, -, -⟩ := m_act (N := N) (by omega) hP hi s12 FB.rf
      obtain ⟨I13, e13, hM13, f13⟩ := m_fails (N := N) (b := 0) hn hN (by omega) hl g hN8 hM8 hS
      have hN13 := hN8.fs f13
      refine ⟨.inl (nI (pcn d)), I12, nI (pcn d), I13, ?_, (fun E h => by cases h), ?_, ?_, (fun v h => by cases h; rfl), act_fin hP mv hi s12 ?_ ?_ (s8.tr (Sm2.fs f13)) ?_ g12 cs12 hM13 (rg4.fr (fun c h1 h2 => by rw [f12 c (by simp; omega), f9 c (by simp; omega)])) ?_⟩
      · rw [baseC, if_pos h, e4, ob_some, c_stands hn c4 cs4 hww (by omega), ob_some, e9, ob_some]
        dsimp only
        rw [e12, ob_some]
        dsimp only
        rw [c_stands hn c12 cs12 (g12.wf hn) (by omega), ob_some, ed, c_bits hd, ob_some]
      · rw [baseM _ hN12 hM12, if_pos h, e8, ob_some, show mX11_standing N 0 I8 = _ from m_stands (b := 0) hn hN8 hM8 hww (by omega) (by omega), ob_some, show mX11_fails N 0 (nI l) I8 = some I13 from e13, ob_some, show mX11_standing N 0 I13 = _ from m_stands (b := 0) hn hN13 hM13 (g12.wf hn) (by omega) (by omega), ob_some, ed, m_bits (by omega), ob_some]
      · rw [f13.2.1 0 (by simp), h08]; rfl
      · rw [f12 0 (by simp), f9 0 (by simp), z4]
      · intro c hc; rw [f13.1 c (by simp; omega), lo8 c hc]
      · rw [f13.1 312 (by simp), z8]
      · exact Rows.fr hn (kpS_gd g ac.2.1) hR8 (f13.1 318 (by simp)) (f13.2.1 25 (by simp))
  · refine ⟨.inr xnN, I, 0, upd2 (upd2 I 310 0 0) 310 0 1, ?_, (fun E h => by cases h; rfl), ?_, u2_at, (fun v h => by cases h), hInv.sm (Sm.rf.u0.u0)⟩
    · unfold mX10_fail
      rw [eC I c1, lb_r]
    · unfold mX11_fail
      rw [eM _ (m1.sm Sm.rf.u0) u2_at, ob_some]
      dsimp only
      rw [if_pos rfl]
end Steps7
