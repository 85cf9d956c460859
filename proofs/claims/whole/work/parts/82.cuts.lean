/-! cuts, saved -/
section CutsS
variable {ν : Nt} {σ : St} {N u b : Nat} {I : gI}
theorem and_sh {l : Nat} (hl : l < 32) (x : Int32) : x &&& ((1 : Int32) <<< (nI l &&& 31)) = 0 ↔ bt x l = false := by
  constructor
  · intro h
    have : bt (x &&& ((1 : Int32) <<< (nI l &&& 31))) l = bt 0 l := by rw [h]
    rw [b_and, b_sh1 hl hl, b_0] at this
    simpa using this
  · intro h
    apply b_ext
    intro i hi
    rw [b_and, b_sh1 hl hi, b_0]
    by_cases e : i = l
    · subst e; rw [h]; rfl
    · simp [e]
def goB (σ : St) (k : Int32) (l : Nat) : Bool := decide (¬ nI l = k) && bt σ.up l
def cutp (ν : Nt) (σ : St) (a z l : Nat) : Bool := bt σ.up l && !rch ν (goB σ (nI l)) a 7 z
theorem c_cut39 (hn : WfN ν) (hI : NetC ν I) (hs : I 36 2 = σ.up) (hN : 100 ≤ N) {a z : Nat} (ha : a < ν.nn) (hz : z < ν.nn) : mX10_cuts_39 N (nI a) (nI z) I N 0 0 = some (bm (cutp ν σ a z) ν.ln) := by
  have hln := hn.2.2.1
  have hnn := hn.2.1
  obtain ⟨x, hP, e⟩ := loopP (F := fun n v i => mX10_cuts_39 N (nI a) (nI z) I n v i) (b := ν.ln) (out := id)
    (P := fun k v => v = bm (cutp ν σ a z) k)
    (fun n v _ => by
      show mX10_cuts_39 N (nI a) (nI z) I (n + 1) v (nI ν.ln) = some v
      rw [mX10_cuts_39, hI.2.1, if_pos (nI_le (Nat.le_refl _) (by omega))])
    (fun n k v hk hP => by
      refine ⟨_, ?_, rfl⟩
      show mX10_cuts_39 N (nI a) (nI z) I (n + 1) v (nI k) = mX10_cuts_39 N (nI a) (nI z) I n _ (nI (k + 1))
      have r := c_reach (N := N) (x := σ.up &&& (((1 : Int32) <<< (nI k &&& 31)) ^^^ (-1))) (go := goB σ (nI k)) (a := a) (z := z) (h := 7) hn hI (by omega) (by omega) (by omega) (fun l hl => by
        rw [b_not (by omega), b_sh1 (by omega) (by omega)]
        unfold goB
        by_cases h : l = k
        · rw [h]; cases bt σ.up k <;> simp
        · have h' : ¬ nI l = nI k := fun e => h ((nI_eq (by omega) (by omega)).mp e)
          cases bt σ.up l <;> simp [h, h']) hN
      rw [mX10_cuts_39, hI.2.1, if_neg (nI_ge hk (by omega)), hs, show (7 : Int32) = nI 7 from rfl, r, ob_some, nI_1, bm, hP]
      unfold cutp
      cases h1 : bt σ.up k with
      | false => rw [if_pos ((and_sh (by omega) _).mpr h1)]; rfl
      | true =>
        rw [if_neg (fun h => by rw [(and_sh (by omega) _).mp h] at h1; cases h1)]
        cases h2 : rch ν (goB σ (nI k)) a 7 z with
        | true => rfl
        | false => rfl)
    N 0 0 (Nat.zero_le _) (by omega) rfl
  rw [show mX10_cuts_39 N (nI a) (nI z) I N 0 0 = some x from e, hP]
theorem m_cut58 (hn : WfN ν) (hI : NetM ν I) (hs : MS ν 317 0 σ I) (hN : 100 ≤ N) {a z : Nat} (ha : a < ν.nn) (hz : z < ν.nn) : mX11_cuts_58 N (nI a) (nI z) I N 0 0 = some (bm (cutp ν σ a z) ν.ln) := by
  have hln := hn.2.2.1
  have hnn := hn.2.1
  obtain ⟨x, hP, e⟩ := loopP (F := fun n v i => mX11_cuts_58 N (nI a) (nI z) I n v i) (b := ν.ln) (out := id)
    (P := fun k v => v = bm (cutp ν σ a z) k)
    (fun n v _ => by
      show mX11_cuts_58 N (nI a) (nI z) I (n + 1) v (nI ν.ln) = some v
      rw [mX11_cuts_58, hI.2.1, if_pos (nI_le (Nat.le_refl _) (by omega))])
    (fun n k v hk hP => by
      refine ⟨_, ?_, rfl⟩
      show mX11_cuts_58 N (nI a) (nI z) I (n + 1) v (nI k) = mX11_cuts_58 N (nI a) (nI z) I n _ (nI (k + 1))
      rw [mX11_cuts_58, hI.2.1, if_neg (nI_ge hk (by omega)), show mX11_isUp 0 (nI k) I = _ from m_up (b := 0) hs (by omega) (by omega), ob_some, m_reach (N := N) (go := goB σ (nI k)) hn hI hs hN ha hz (fun l hl => rfl), ob_some, nI_1, bm, hP, or_z]
      unfold cutp
      cases h1 : bt σ.up k with
      | false => rfl
      | true =>
        cases h2 : rch ν (goB σ (nI k)) a 7 z with
        | true => rfl
        | false => rfl)
    N 0 0 (Nat.zero_le _) (by omega) rfl
  rw [show mX11_cuts_58 N (nI a) (nI z) I N 0 0 = some x from e, hP]
set_option maxHeartbeats 1000000 in
theorem s_cuts (hN : 100000000000 ≤ N) : St_cuts N Inv := by
  intro c I J a1 a2 hc hInv
  obtain ⟨⟨ν, σ, ks, vs, hP⟩, mv⟩ := id hInv
  obtain ⟨hn, g, c1, m1, c2, m2, ac, sg, im, tp, ct⟩ := id hP
  have hnn := hn.2.1
  have hln := hn.2.2.1
  have s0 : ∀ {K : gI}, Sm K (upd2 K 310 0 0) := Sm.rf.u0
  have m1' : NetM ν (upd2 I 310 0 0) := m1.sm s0
  have m2' : MS ν 317 0 σ (upd2 I 310 0 0) := m2.c (u2_c (by decide))
  rcases nod_ck hn a1 with ⟨n1, hn1, rfl, eM1⟩ | ⟨b1, eM1⟩
  · rcases nod_ck hn a2 with ⟨n2, hn2, rfl, eM2⟩ | ⟨b2, eM2⟩
    · have en : nI n1 = nI n2 ↔ n1 = n2 := nI_eq (by omega) (by omega)
      by_cases h12 : n1 = n2
      · refine ⟨.inr xnA, 0, upd2 (upd2 I 310 0 0) 310 0 2, ?_, (fun E h => by cases h; exact Or.inr rfl), ?_, u2_at.trans (by decide), (fun v h => by cases h), hInv.sm s0.u0⟩
        · unfold mX10_cuts mX10_checkUnlike
          rw [c_nod1 hn c1 hn1 hn2, lb_l, if_pos (en.mpr h12), lb_r]
        · unfold mX11_cuts
          rw [eM1 _ m1' u2_at, ob_some]
          dsimp only
          rw [if_neg (show ¬ (1 : Int32) = 0 by decide), eM2 _ m1' u2_at, ob_some]
          dsimp only
          rw [if_neg (show ¬ (1 : Int32) = 0 by decide), if_pos (en.mpr h12), ob_some, m_right0 u2_at (by decide), ob_some]
          dsimp only
          rw [if_pos rfl]
      · have r0 := c_reach (N := N) (x := σ.up) (go := goB σ (-1)) (a := n1) (z := n2) (h := 7) hn c1 (by omega) (by omega) (by omega) (fun l hl => by
          unfold goB
          rw [decide_eq_true (nI_m1 (show l < 2147483648 by omega)), Bool.true_and]) (by omega)
        have baseM : mX11_cuts N (nI n1) (nI n2) I = if rch ν (goB σ (-1)) n1 7 n2 = true then some (bm (cutp ν σ n1 n2) ν.ln, upd2 I 310 0 0) else some (0, upd2 I 310 0 0) := by
          unfold mX11_cuts
          rw [eM1 _ m1' u2_at, ob_some]
          dsimp only
          rw [if_neg (show ¬ (1 : Int32) = 0 by decide), eM2 _ m1' u2_at, ob_some]
          dsimp only
          rw [if_neg (show ¬ (1 : Int32) = 0 by decide), if_neg (fun h => h12 (en.mp h)), ob_some, m_right1 u2_at, ob_some]
          dsimp only
          rw [if_neg (show ¬ (1 : Int32) = 0 by decide), m_reach (N := N) (go := goB σ (-1)) hn m1' m2' (by omega) hn1 hn2 (fun l hl => rfl), ob_some, m_cut58 hn m1' m2' (by omega) hn1 hn2, ob_some]
          cases rch ν (goB σ (-1)) n1 7 n2 with
          | true => rfl
          | false => rfl
        have baseC : mX10_cuts N (nI n1) (nI n2) I = if rch ν (goB σ (-1)) n1 7 n2 = true then some (.inl (bm (cutp ν σ n1 n2) ν.ln)) else some (.inl 0) := by
          unfold mX10_cuts mX10_checkUnlike
          rw [c_nod1 hn c1 hn1 hn2, lb_l, if_neg (fun h => h12 (en.mp h)), lb_l, show I 36 2 = σ.up from c2.1, show (7 : Int32) = nI 7 from rfl, r0, ob_some, c_cut39 hn c1 c2.1 (by omega) hn1 hn2, ob_some]
          cases rch ν (goB σ (-1)) n1 7 n2 with
          | true => rfl
          | false => rfl
        by_cases hr : rch ν (goB σ (-1)) n1 7 n2 = true
        · exact ⟨.inl _, _, upd2 I 310 0 0, by rw [baseC, if_pos hr], (fun E h => by cases h), by rw [baseM, if_pos hr], u2_at, (fun v h => by cases h; rfl), hInv.sm s0⟩
        · exact ⟨.inl _, _, upd2 I 310 0 0, by rw [baseC, if_neg hr], (fun E h => by cases h), by rw [baseM, if_neg hr], u2_at, (fun v h => by cases h; rfl), hInv.sm s0⟩
    · refine ⟨.inr xnN, 0, upd2 (upd2 I 310 0 0) 310 0 1, ?_, (fun E h => by cases h; exact Or.inl rfl), ?_, u2_at.trans (by decide), (fun v h => by cases h), hInv.sm s0.u0⟩
      · unfold mX10_cuts
        rw [c_nod2 c1 (Or.inr ⟨nI_pos (by omega), nI_ge hn1 (by omega), b2⟩), lb_r]
      · unfold mX11_cuts
        rw [eM1 _ m1' u2_at, ob_some]
        dsimp only
        rw [if_neg (show ¬ (1 : Int32) = 0 by decide), eM2 _ m1' u2_at, ob_some]
        dsimp only
        rw [if_pos rfl]
  · refine ⟨.inr xnN, 0, upd2 (upd2 I 310 0 0) 310 0 1, ?_, (fun E h => by cases h; exact Or.inl rfl), ?_, u2_at.trans (by decide), (fun v h => by cases h), hInv.sm s0.u0⟩
    · unfold mX10_cuts
      rw [c_nod2 c1 (Or.inl b1), lb_r]
    · unfold mX11_cuts
      rw [eM1 _ m1' u2_at, ob_some]
      dsimp only
      rw [if_pos rfl]
/-! saved -/
theorem bst_ne (hn : WfN ν) {t bd p : Nat} {q : List Nat} (ht : t < ν.tn) (h : bst ν σ t bd p q) : q ≠ [] ↔ ∃ q', IsP ν (fit ν σ t bd p) (ν.T t 0) (ν.T t 1) (ν.T t 6) q' := by
  have hT := hn.2.2.2.2.2 t ht
  rcases h with ⟨rfl, h⟩ | h
  · exact ⟨fun e => absurd rfl e, fun ⟨q', hq'⟩ => absurd hq' (h q')⟩
  · refine ⟨fun _ => ⟨q, h.1⟩, fun _ e => ?_⟩
    subst e
    exact hT.2.2.1 h.1.1
theorem MS_up {b : Nat} {x : Int32} (hs : MS ν 317 b σ I) : MS ν 317 b (upS σ x) (upd2 I 317 b x) := by
  refine ⟨u2_at, fun t ht => ?_⟩
  obtain ⟨h1, h2, h3⟩ := hs.2 t ht
  refine ⟨by rw [u2_ne (by omega)]; exact h1, by rw [u2_ne (by omega)]; exact h2, fun k hk => by rw [u2_ne (by omega)]; exact h3 k hk⟩
/-- a tunnel on a link has a way without it -/
def svp (ν : Nt) (σ : St) (l t : Nat) : Bool := decide (l ∈ σ.w t) && rch ν (fun i => fit ν σ t (σ.bd t) (ν.T t 3) i && decide (i ≠ l)) (ν.T t 0) (ν.T t 6) (ν.T t 1)
theorem c_sv19 (hn : WfN ν) (g : Gd ν σ) (hI : NetC ν I) (hs : CS ν 36 σ I) (hN : 100 ≤ N) {l : Nat} (hl : l < ν.ln) : mX10_saved_19 N (nI l) (bm (fun t => decide (l ∈ σ.w t)) ν.tn) I N 0 0 = some (bm (svp ν σ l) ν.tn) := by
  have htn := hn.2.2.2.1
  have hln := hn.2.2.1
  have hnn := hn.2.1
  have hw := g.wf hn
  obtain ⟨x, hP, e⟩ := loopP (F := fun n v i => mX10_saved_19 N (nI l) (bm (fun t => decide (l ∈ σ.w t)) ν.tn) I n v i) (b := ν.tn) (out := id)
    (P := fun k v => v = bm (svp ν σ l) k)
    (fun n v _ => by
      show mX10_saved_19 N (nI l) _ I (n + 1) v (nI ν.tn) = some v
      rw [mX10_saved_19, hI.2.2.1, if_pos (nI_le (Nat.le_refl _) (by omega))])
    (fun n k v hk hP => by
      refine ⟨_, ?_, rfl⟩
      show mX10_saved_19 N (nI l) _ I (n + 1) v (nI k) = mX10_saved_19 N (nI l) _ I n _ (nI (k + 1))
      have hT := hn.2.2.2.2.2 k hk
      obtain ⟨y, ey, hy⟩ := c_fit (N := N) (t := k) (bd := σ.bd k) (p := ν.T k 3) hn hI hs hw hN hk (g.1 k hk).2.1 hT.2.2.2.2.2.1
      have r := c_reach (N := N) (x := y &&& (((1 : Int32) <<< (nI l &&& 31)) ^^^ (-1))) (go := fun i => fit ν σ k (σ.bd k) (ν.T k 3) i && decide (i ≠ l)) (a := ν.T k 0) (z := ν.T k 1) (h := ν.T k 6) hn hI (by omega) (by omega) hT.2.2.2.2.2.2.2.2.2 (fun i hi => by
        rw [b_not (by omega), b_sh1 (by omega) (by omega), hy i (by omega)]
        simp [hi]) hN
      have hW : mX2_hasWayWithout N 36 (nI k) (nI l) I = some (if rch ν (fun i => fit ν σ k (σ.bd k) (ν.T k 3) i && decide (i ≠ l)) (ν.T k 0) (ν.T k 6) (ν.T k 1) = true then 1 else 0) := by
        unfold mX2_hasWayWithout
        rw [ck_n (by omega) (by decide), nI_clamp (by omega), show I (36 + 2) k = nI (σ.bd k) from (hs.2 k hk).2, show I 11 k = nI (ν.T k 3) from hI.2.2.2.2 k hk 3 (by decide), show I 8 k = nI (ν.T k 0) from hI.2.2.2.2 k hk 0 (by decide), show I 9 k = nI (ν.T k 1) from hI.2.2.2.2 k hk 1 (by decide), show I 14 k = nI (ν.T k 6) from hI.2.2.2.2 k hk 6 (by decide), ey, ob_some, r, ob_some]
        cases rch ν (fun i => fit ν σ k (σ.bd k) (ν.T k 3) i && decide (i ≠ l)) (ν.T k 0) (ν.T k 6) (ν.T k 1) with
        | true => exact zo_1
        | false => exact zo_0
      rw [mX10_saved_19, hI.2.2.1, if_neg (nI_ge hk (by omega)), hW, ob_some, nI_1, bm, hP]
      have hb : bt (bm (fun t => decide (l ∈ σ.w t)) ν.tn) k = decide (l ∈ σ.w k) := by
        rw [b_bm (by omega) _ _ (by omega)]; simp [hk]
      by_cases h1 : l ∈ σ.w k
      · rw [if_neg (fun h => by rw [cb0 (by omega), hb] at h; simp [h1] at h)]
        unfold svp
        rw [decide_eq_true h1, Bool.true_and]
        cases rch ν (fun i => fit ν σ k (σ.bd k) (ν.T k 3) i && decide (i ≠ l)) (ν.T k 0) (ν.T k 6) (ν.T k 1) with
        | true => rfl
        | false => rfl
      · rw [if_pos (by rw [cb0 (by omega), hb]; simp [h1])]
        unfold svp
        rw [decide_eq_false h1]
        rfl)
    N 0 0 (Nat.zero_le _) (by omega) rfl
  rw [show mX10_saved_19 N (nI l) _ I N 0 0 = some x from e, hP]
theorem upd_fit {t bd p l i : Nat} (hi : i < 32) (hl : l < 32) : fit ν (upS σ (σ.up &&& (((1 : Int32) <<< (nI l &&& 31)) ^^^ (-1)))) t bd p i = (fit ν σ t bd p i && decide (i ≠ l)) := by
  have e : pl ν (upS σ (σ.up &&& (((1 : Int32) <<< (nI l &&& 31)) ^^^ (-1)))) t i p = pl ν σ t i p := rfl
  have e2 : bt (upS σ (σ.up &&& (((1 : Int32) <<< (nI l &&& 31)) ^^^ (-1)))).up i = (bt σ.up i && !decide (i = l)) := by
    show bt (σ.up &&& (((1 : Int32) <<< (nI l &&& 31)) ^^^ (-1))) i = _
    rw [b_not hi, b_sh1 hl hi]
  unfold fit opn
  rw [e, e2]
  by_cases h : i = l <;> simp [h]
theorem m_sv49 {l : Nat} (hn : WfN ν) (g : Gd ν σ) (hI : NetM ν I) (hs : MS ν 317 0 σ I) (hs2 : MS ν 317 82 (upS σ (σ.up &&& (((1 : Int32) <<< (nI l &&& 31)) ^^^ (-1)))) I) (hN : 100000000000 ≤ N) (hl : l < ν.ln) : ∃ I', mX11_saved_49 N (nI l) N 0 0 I = some (bm (svp ν σ l) ν.tn, I') ∧ FB I I' := by
  have htn := hn.2.2.2.1
  have hln := hn.2.2.1
  have hw := g.wf hn
  obtain ⟨s', hP, e⟩ := loopP (σ := Int32 × gI) (F := fun n s i => mX11_saved_49 N (nI l) n s.1 i s.2) (b := ν.tn) (out := fun s => (s.1, s.2))
    (P := fun k s => FB I s.2 ∧ s.1 = bm (svp ν σ l) k)
    (fun n s hP => by
      show mX11_saved_49 N (nI l) (n + 1) s.1 (nI ν.tn) s.2 = some (s.1, s.2)
      rw [mX11_saved_49, (hI.fb hP.1).2.2.1, if_pos (nI_le (Nat.le_refl _) (by omega))])
    (fun n k s hk hP => by
      obtain ⟨f, hP⟩ := hP
      have hT := hn.2.2.2.2.2 k hk
      have hIs := hI.fb f
      have h0 : MS ν 317 0 σ s.2 := hs.c (f.1 317 (by simp))
      have h82 : MS ν 317 82 (upS σ (σ.up &&& (((1 : Int32) <<< (nI l &&& 31)) ^^^ (-1)))) s.2 := hs2.c (f.1 317 (by simp))
      have hw2 : WfW ν (upS σ (σ.up &&& (((1 : Int32) <<< (nI l &&& 31)) ^^^ (-1)))) := hw
      obtain ⟨I2, q, hq, f2, hres⟩ := m_hasBest (N := N) (b := 82) (want := σ.bd k) hn hIs h82 hw2 (by omega) hN hk (g.1 k hk).2.1
      have hrq : rch ν (fun i => fit ν σ k (σ.bd k) (ν.T k 3) i && decide (i ≠ l)) (ν.T k 0) (ν.T k 6) (ν.T k 1) = true ↔ q ≠ [] := by
        rw [rch_isP, bst_ne hn hk hq]
        constructor
        · intro ⟨p, hp⟩
          exact ⟨p, hp.congr (fun i hi => (upd_fit (by omega) (by omega)).symm)⟩
        · intro ⟨p, hp⟩
          exact ⟨p, hp.congr (fun i hi => upd_fit (by omega) (by omega))⟩
      have q1 : s.2 317 (1 + k) = nI (σ.bd k) := by have := (h0.2 k hk).1; rwa [Nat.zero_add] at this
      have key : mX11_saved_49 N (nI l) (n + 1) s.1 (nI k) s.2 = if l ∈ σ.w k then (Option.bind (mX11_hasBest N 82 (nI k) (nI (σ.bd k)) s.2) (fun (r17, I18) => if r17 = 0 then (mX11_saved_49 N (nI l) n s.1 (nI (k + 1)) I18) else (mX11_saved_49 N (nI l) n (s.1 ||| ((1 : Int32) <<< (nI k &&& 31))) (nI (k + 1)) I18))) else mX11_saved_49 N (nI l) n s.1 (nI (k + 1)) s.2 := by
        rw [mX11_saved_49, hIs.2.2.1, if_neg (nI_ge hk (by omega)), show mX11_wayBits N 0 (nI k) s.2 = some (wb (σ.w k)) from m_wb (b := 0) hn h0 hw (by omega) (by omega) hk, ob_some, ix1', ck_n (by omega) (by decide), nI_clamp (by omega), q1, nI_1]
        by_cases h1 : l ∈ σ.w k
        · rw [if_pos ((mb1 (by omega) _).mpr (by rw [wb_t hn hw hk (by omega)]; simp [h1])), if_pos h1]
        · rw [if_neg (fun e => by rw [mb1 (by omega), wb_t hn hw hk (by omega)] at e; simp [h1] at e), if_neg h1]
      by_cases h1 : l ∈ σ.w k
      · rcases hres with ⟨hne, e2, -, -⟩ | ⟨he, e2, -⟩
        · refine ⟨(s.1 ||| ((1 : Int32) <<< (nI k &&& 31)), I2), ?_, f.tr f2, ?_⟩
          · show mX11_saved_49 N (nI l) (n + 1) s.1 (nI k) s.2 = _
            rw [key, if_pos h1, show mX11_hasBest N 82 (nI k) (nI (σ.bd k)) s.2 = some (1, I2) from e2, ob_some]
            dsimp only
            rw [if_neg (show ¬ (1 : Int32) = 0 by decide)]
          · show s.1 ||| _ = _
            rw [hP, bm]
            unfold svp
            rw [decide_eq_true h1, hrq.mpr hne]
            rfl
        · refine ⟨(s.1, I2), ?_, f.tr f2, ?_⟩
          · show mX11_saved_49 N (nI l) (n + 1) s.1 (nI k) s.2 = _
            rw [key, if_pos h1, show mX11_hasBest N 82 (nI k) (nI (σ.bd k)) s.2 = some (0, I2) from e2, ob_some]
            dsimp only
            rw [if_pos rfl]
          · show s.1 = _
            rw [hP, bm]
            have : ¬ rch ν (fun i => fit ν σ k (σ.bd k) (ν.T k 3) i && decide (i ≠ l)) (ν.T k 0) (ν.T k 6) (ν.T k 1) = true := fun h => (hrq.mp h) he
            unfold svp
            rw [Bool.eq_false_iff.mpr this, Bool.and_false, if_neg (by decide)]
      · refine ⟨s, by show mX11_saved_49 N (nI l) (n + 1) s.1 (nI k) s.2 = _; rw [key, if_neg h1], f, ?_⟩
        rw [hP, bm]
        unfold svp
        rw [decide_eq_false h1, Bool.false_and, if_neg (by decide)])
    N 0 (0, I) (Nat.zero_le _) (by omega) ⟨FB.rf, rfl⟩
  exact ⟨s'.2, by rw [show mX11_saved_49 N (nI l) N 0 0 I = some (s'.1, s'.2) from e, hP.2], hP.1⟩
set_option maxHeartbeats 1000000 in
theorem s_saved (hN : 100000000000 ≤ N) : St_saved N Inv := by
  intro c I J a1 hc hInv
  obtain ⟨⟨ν, σ, ks, vs, hP⟩, mv⟩ := id hInv
  obtain ⟨hn, g, c1, m1, c2, m2, ac, sg, im, tp, ct⟩ := id hP
  have hln := hn.2.2.1
  have htn := hn.2.2.2.1
  have hww := g.wf hn
  have s0 : ∀ {K : gI}, Sm K (upd2 K 310 0 0) := Sm.rf.u0
  have m1' : NetM ν (upd2 I 310 0 0) := m1.sm s0
  have m2' : MS ν 317 0 σ (upd2 I 310 0 0) := m2.c (u2_c (by decide))
  rcases lnk_ck hn a1 with ⟨l, hl, rfl, eC, eM⟩ | ⟨eC, eM⟩
  · have eu : mX11_isUp 0 (nI l) (upd2 I 310 0 0) = _ := m_up (b := 0) m2' (by omega) (by omega)
    have baseC : mX10_saved N (nI l) I = some (.inl (bm (svp ν σ l) ν.tn)) := by
      unfold mX10_saved
      rw [eC I c1, lb_l, c_on hn c1 c2 hww (by omega) hl, ob_some, c_sv19 hn g c1 c2 (by omega) hl, ob_some]
    cases hu : bt σ.up l with
    | false =>
      have hz : bm (svp ν σ l) ν.tn = 0 := by
        rw [mk9_bm _ (by omega), mk9_z]
        · rfl
        · intro t ht
          unfold svp
          have : ¬ l ∈ σ.w t := by
            intro hlt
            rcases (g.1 t ht).2.2 with h | h
            · rw [h] at hlt; cases hlt
            · have := h.2.2.2 l hlt
              unfold opn at this
              rw [hu] at this
              simp at this
          rw [decide_eq_false this]
          rfl
      refine ⟨.inl 0, 0, upd2 I 310 0 0, by rw [baseC, hz], (fun E h => by cases h), ?_, u2_at, (fun v h => by cases h; rfl), hInv.sm s0⟩
      unfold mX11_saved
      rw [eM _ m1' u2_at, ob_some]
      dsimp only
      rw [if_neg (show ¬ (1 : Int32) = 0 by decide), eu, hu, ob_some]
      rfl
    | true =>
      obtain ⟨I8, e8, f8, z8, h8⟩ := m_tries (N := N) hn hww (by omega) m2'
      have e82 : (82 : Int32).toNatClampNeg = 82 := by decide
      have hI8 := m1'.fs f8
      have hM8 : MS ν 317 0 σ I8 := MS.fr hn hww m2' (fun j _ hj => f8.2.2 j (by omega))
      have fu : FS 82 I8 (upd2 I8 317 82 (σ.up &&& (((1 : Int32) <<< (nI l &&& 31)) ^^^ (-1)))) := FS.rf.u (by omega) (by omega)
      obtain ⟨I9, e9, f9⟩ := m_sv49 (N := N) (l := l) hn g (hI8.fs fu) (MS.fr hn hww hM8 (fun j _ hj => fu.2.2 j (by omega))) (MS_up h8) hN hl
      have fAll : FS 82 (upd2 I 310 0 0) I9 := (f8.tr fu).tr (FS.fb f9)
      refine ⟨.inl _, _, I9, baseC, (fun E h => by cases h), ?_, (by rw [fAll.2.1 0 (by simp), u2_at]; rfl), (fun v h => by cases h; rfl), hInv.sm (s0.tr (Sm.fs fAll))⟩
      unfold mX11_saved
      rw [eM _ m1' u2_at, ob_some]
      dsimp only
      rw [if_neg (show ¬ (1 : Int32) = 0 by decide), eu, hu, ob_some, if_pos (show true = true from rfl), if_neg (show ¬ (1 : Int32) = 0 by decide), e8, ob_some, e82, nm_n, h8.1, e9, ob_some]
  · refine ⟨.inr xnN, 0, upd2 (upd2 I 310 0 0) 310 0 1, ?_, (fun E h => by cases h; rfl), ?_, u2_at, (fun v h => by cases h), hInv.sm s0.u0⟩
    · unfold mX10_saved
      rw [eC I c1, lb_r]
    · unfold mX11_saved
      rw [eM _ m1' u2_at, ob_some]
      dsimp only
      rw [if_pos rfl]
end CutsS
