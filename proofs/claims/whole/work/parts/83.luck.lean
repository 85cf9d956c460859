/-! luck -/
section LuckS
variable {ν : Nt} {σ : St} {N : Nat} {I : gI}
theorem c_pow {a e : Nat} (he : e ≤ 1000) (hN : 2000 ≤ N) : mX10_power N (nI a) (nI e) I = some (nI (a ^ e)) := by
  obtain ⟨v, hP, h⟩ := loopP (F := fun n v i => mX10_power_4 (nI a) (nI e) I n v i) (b := e) (out := id)
    (P := fun k v => v = nI (a ^ k))
    (fun n v _ => by
      show mX10_power_4 (nI a) (nI e) I (n + 1) v (nI e) = some v
      rw [mX10_power_4, if_pos (nI_le (Nat.le_refl _) (by omega))])
    (fun n k v hk hP => by
      refine ⟨_, ?_, rfl⟩
      show mX10_power_4 (nI a) (nI e) I (n + 1) v (nI k) = mX10_power_4 (nI a) (nI e) I n _ (nI (k + 1))
      rw [mX10_power_4, if_neg (nI_ge hk (by omega)), nI_1, hP, nI_mul, Nat.pow_succ])
    N 0 1 (Nat.zero_le _) (by omega) rfl
  unfold mX10_power
  rw [show mX10_power_4 (nI a) (nI e) I N 1 0 = some v from h, ob_some, hP]
/-- links of the first eight that are up -/
def upM (σ : St) : Nat := mk9 (fun i => bt σ.up i) 8
theorem upM_eq (σ : St) : σ.up &&& 255 = nI (upM σ) := by
  unfold upM
  apply b_ext
  intro i hi
  rw [b_and, b_ff hi, b_nI hi, mk9_tb, Bool.and_comm]
theorem upM_lt (σ : St) : upM σ < 256 := mk9_lt 8
def cn (s j : Nat) : Nat := ((List.range j).filter (fun i => s.testBit i)).length
theorem cn_s (s j : Nat) : cn s (j + 1) = cn s j + (if s.testBit j = true then 1 else 0) := by
  unfold cn
  rw [List.range_succ, List.filter_append, List.length_append]
  congr 1
  cases h : s.testBit j <;> simp [h]
/-- the chance, link by link -/
def prl (d M k : Nat) : Nat → Nat
  | 0 => 1
  | j + 1 => if M.testBit j = true then (if k.testBit j = true then prl d M k j * d else prl d M k j * (10 - d)) else prl d M k j
theorem prl_eq {d M k D : Nat} (h1 : sub9 k M) (h2 : ∀ i, D.testBit i = (M.testBit i && !k.testBit i)) : ∀ j, prl d M k j = d ^ cn k j * (10 - d) ^ cn D j
  | 0 => rfl
  | j + 1 => by
    have hs := h1 j
    rw [prl, prl_eq h1 h2 j, cn_s, cn_s, h2 j]
    cases hM : M.testBit j with
    | false =>
      cases hk : k.testBit j with
      | true => rw [hs hk] at hM; cases hM
      | false => simp
    | true =>
      cases hk : k.testBit j with
      | true => simp [Nat.pow_succ, Nat.mul_assoc, Nat.mul_comm, Nat.mul_left_comm]
      | false => simp [Nat.pow_succ, Nat.mul_assoc]
theorem prl_hi {d M k : Nat} (h : ∀ i, 8 ≤ i → M.testBit i = false) : ∀ j, prl d M k (8 + j) = prl d M k 8
  | 0 => rfl
  | j + 1 => by
    show prl d M k ((8 + j) + 1) = _
    rw [prl, h (8 + j) (by omega), if_neg (by decide), prl_hi h j]
/-- some fail: is there a way -/
def lkR (ν : Nt) (σ : St) (t k : Nat) : Bool := rch ν (fun i => opn ν σ t i && !k.testBit i) (ν.T t 0) (ν.T t 6) (ν.T t 1)
def lkD (σ : St) (k : Nat) : Nat := mk9 (fun i => bt σ.up i && !k.testBit i) 8
theorem lkD_eq (σ : St) (k : Nat) : nI (upM σ) &&& (nI k ^^^ (-1)) = nI (lkD σ k) := by
  unfold upM lkD
  refine nI_dif (fun i hi => ?_)
  rw [mk9_tb, mk9_tb]
  by_cases h : i < 8 <;> simp [h]
def lkC (σ : St) (d k : Nat) : Int32 := nI (d ^ pcn k * (10 - d) ^ pcn (lkD σ k))
def lkS (ν : Nt) (σ : St) (t d : Nat) : Nat → Int32
  | 0 => 0
  | k + 1 => if (nI k &&& (nI (upM σ) ^^^ (-1))) = 0 ∧ lkR ν σ t k = true then lkS ν σ t d k + lkC σ d k else lkS ν σ t d k
theorem z_add (x : Int32) : x + 0 = x := Int32.add_zero x
set_option maxHeartbeats 1000000 in
theorem c_lk60 (hn : WfN ν) (hI : NetC ν I) (hN : 10000 ≤ N) {t d : Nat} {x : Int32} (ht : t < ν.tn) (hd : d ≤ 10) (hx : ∀ i, i < 32 → bt x i = (decide (i < ν.ln) && opn ν σ t i)) : mX10_luck_60 N (nI t) (nI d) x 256 (nI (upM σ)) I N 0 0 = some (lkS ν σ t d 256) := by
  have htn := hn.2.2.2.1
  have hln := hn.2.2.1
  have hnn := hn.2.1
  have hT := hn.2.2.2.2.2 t ht
  obtain ⟨v, hP, e⟩ := loopP (F := fun n v i => mX10_luck_60 N (nI t) (nI d) x 256 (nI (upM σ)) I n v i) (b := 256) (out := id)
    (P := fun k v => v = lkS ν σ t d k)
    (fun n v _ => by
      show mX10_luck_60 N (nI t) (nI d) x 256 (nI (upM σ)) I (n + 1) v (nI 256) = some v
      rw [mX10_luck_60, if_pos (by decide)])
    (fun n k v hk hP => by
      refine ⟨_, ?_, rfl⟩
      show mX10_luck_60 N (nI t) (nI d) x 256 (nI (upM σ)) I (n + 1) v (nI k) = mX10_luck_60 N (nI t) (nI d) x 256 (nI (upM σ)) I n _ (nI (k + 1))
      have r := c_reach (N := N) (x := x &&& (nI k ^^^ (-1))) (go := fun i => opn ν σ t i && !k.testBit i) (a := ν.T t 0) (z := ν.T t 1) (h := ν.T t 6) hn hI (by omega) (by omega) hT.2.2.2.2.2.2.2.2.2 (fun i hi => by
        rw [b_not (by omega), hx i (by omega), b_nI (by omega)]
        simp [hi]) (by omega)
      have hDl : lkD σ k < 512 := Nat.lt_of_lt_of_le (mk9_lt 8) (by decide)
      have p1 := pcn_le k
      have p2 := pcn_le (lkD σ k)
      rw [mX10_luck_60, if_neg (show ¬ (256 : Int32) ≤ nI k from nI_ge (b := 256) hk (by omega)), nI_1, lkS, hP]
      by_cases h1 : (nI k &&& (nI (upM σ) ^^^ (-1))) = 0
      · rw [if_pos h1, c_bits (by omega), ob_some, c_pow (by omega) (by omega), ob_some, lkD_eq, c_bits hDl, ob_some, show (10 : Int32) = nI 10 from rfl, nI_sub hd, c_pow (by omega) (by omega), ob_some, nI_mul, ck_n (by omega) (by decide), nI_clamp (by omega), show I 8 t = nI (ν.T t 0) from hI.2.2.2.2 t ht 0 (by decide), show I 9 t = nI (ν.T t 1) from hI.2.2.2.2 t ht 1 (by decide), show I 14 t = nI (ν.T t 6) from hI.2.2.2.2 t ht 6 (by decide), r, ob_some]
        show (if lkC σ d k = 0 then _ else (if (if lkR ν σ t k = true then (1 : Int32) else 0) = 0 then _ else mX10_luck_60 N (nI t) (nI d) x 256 (nI (upM σ)) I n (lkS ν σ t d k + lkC σ d k) (nI (k + 1)))) = _
        by_cases h3 : lkC σ d k = 0
        · rw [if_pos h3]
          by_cases h2 : lkR ν σ t k = true
          · rw [if_pos (show (nI k &&& (nI (upM σ) ^^^ (-1))) = 0 ∧ lkR ν σ t k = true from ⟨h1, h2⟩), h3, z_add]
          · rw [if_neg (show ¬ ((nI k &&& (nI (upM σ) ^^^ (-1))) = 0 ∧ lkR ν σ t k = true) from fun h => h2 h.2)]
        · rw [if_neg h3]
          by_cases h2 : lkR ν σ t k = true
          · rw [if_pos h2, if_neg (show ¬ (1 : Int32) = 0 by decide), if_pos (show (nI k &&& (nI (upM σ) ^^^ (-1))) = 0 ∧ lkR ν σ t k = true from ⟨h1, h2⟩)]
          · rw [if_neg h2, if_pos (show (0 : Int32) = 0 from rfl), if_neg (show ¬ ((nI k &&& (nI (upM σ) ^^^ (-1))) = 0 ∧ lkR ν σ t k = true) from fun h => h2 h.2)]
      · rw [if_neg h1, if_neg (fun h => h1 h.1)])
    N 0 0 (Nat.zero_le _) (by omega) rfl
  rw [show mX10_luck_60 N (nI t) (nI d) x 256 (nI (upM σ)) I N 0 0 = some v from e, hP]
theorem m_lk74 {d k : Nat} {k1 k3 : Int32} (hd : d ≤ 10) (hN : 100 ≤ N) (hsub : sub9 k (upM σ)) : mX11_luck_74 k1 (nI d) k3 (nI (upM σ)) (nI k) I N 1 0 = some (lkC σ d k) := by
  obtain ⟨v, hP, e⟩ := loopP (F := fun n v i => mX11_luck_74 k1 (nI d) k3 (nI (upM σ)) (nI k) I n v i) (b := 8) (out := id)
    (P := fun j v => v = nI (prl d (upM σ) k j))
    (fun n v _ => by
      show mX11_luck_74 k1 (nI d) k3 (nI (upM σ)) (nI k) I (n + 1) v (nI 8) = some v
      rw [mX11_luck_74, if_pos (by decide)])
    (fun n j v hj hP => by
      refine ⟨_, ?_, rfl⟩
      show mX11_luck_74 k1 (nI d) k3 (nI (upM σ)) (nI k) I (n + 1) v (nI j) = mX11_luck_74 k1 (nI d) k3 (nI (upM σ)) (nI k) I n _ (nI (j + 1))
      rw [mX11_luck_74, if_neg (show ¬ (8 : Int32) ≤ nI j from nI_ge (b := 8) hj (by omega)), nI_1, prl, hP, show (10 : Int32) = nI 10 from rfl, nI_sub hd, nI_mul, nI_mul]
      cases h1 : (upM σ).testBit j with
      | false => rw [if_neg (fun h => by rw [mb1 (by omega), b_nI (by omega), h1] at h; cases h), if_neg (by decide)]
      | true =>
        rw [if_pos (show ((nI (upM σ)) >>> (nI j &&& 31)) &&& 1 = 1 by rw [mb1 (by omega), b_nI (by omega), h1]), if_pos (show true = true from rfl)]
        cases h2 : k.testBit j with
        | false => rw [if_neg (fun h => by rw [mb1 (by omega), b_nI (by omega), h2] at h; cases h), if_neg (by decide)]
        | true => rw [if_pos (show ((nI k) >>> (nI j &&& 31)) &&& 1 = 1 by rw [mb1 (by omega), b_nI (by omega), h2]), if_pos (show true = true from rfl)])
    N 0 1 (Nat.zero_le _) (by omega) rfl
  rw [show mX11_luck_74 k1 (nI d) k3 (nI (upM σ)) (nI k) I N 1 0 = some v from e, hP]
  have h8 : ∀ i, 8 ≤ i → (upM σ).testBit i = false := fun i hi => by unfold upM; rw [mk9_tb]; simp; omega
  have hD : ∀ i, (lkD σ k).testBit i = ((upM σ).testBit i && !k.testBit i) := fun i => by
    unfold upM lkD
    rw [mk9_tb, mk9_tb]
    by_cases h : i < 8 <;> simp [h]
  have q := prl_hi (d := d) (k := k) h8 8
  rw [← q, prl_eq hsub hD]
  rfl
theorem upd_opn {t k i : Nat} (hi : i < 32) : opn ν (upS σ (σ.up &&& (nI k ^^^ (-1)))) t i = (opn ν σ t i && !k.testBit i) := by
  have e2 : bt (upS σ (σ.up &&& (nI k ^^^ (-1)))).up i = (bt σ.up i && !k.testBit i) := by
    show bt (σ.up &&& (nI k ^^^ (-1))) i = _
    rw [b_not hi, b_nI hi]
  unfold opn
  rw [e2]
  cases bt σ.up i <;> cases k.testBit i <;> simp
set_option maxHeartbeats 1000000 in
theorem m_lk47 (hn : WfN ν) (g : Gd ν σ) (hI : NetM ν I) (hs : MS ν 317 0 σ I) (hN : 100000000000 ≤ N) {t d : Nat} (ht : t < ν.tn) (hd : d ≤ 10) : ∃ I', mX11_luck_47 N (nI t) (nI d) (nI (upM σ)) N 0 0 I = some (lkS ν σ t d 256, I') ∧ FS 82 I I' := by
  have htn := hn.2.2.2.1
  have hln := hn.2.2.1
  have hw := g.wf hn
  have e0 : (0 : Int32).toNatClampNeg = 0 := by decide
  have e82 : (82 : Int32).toNatClampNeg = 82 := by decide
  obtain ⟨s', hP, e⟩ := loopP (σ := Int32 × gI) (F := fun n s i => mX11_luck_47 N (nI t) (nI d) (nI (upM σ)) n s.1 i s.2) (b := 256) (out := fun s => (s.1, s.2))
    (P := fun k s => FS 82 I s.2 ∧ s.1 = lkS ν σ t d k)
    (fun n s hP => by
      show mX11_luck_47 N (nI t) (nI d) (nI (upM σ)) (n + 1) s.1 (nI 256) s.2 = some (s.1, s.2)
      rw [mX11_luck_47, if_pos (by decide)])
    (fun n k s hk hP => by
      obtain ⟨f, hP⟩ := hP
      by_cases h1 : (nI k &&& (nI (upM σ) ^^^ (-1))) = 0
      · have hIs := hI.fs f
        have h0 : MS ν 317 0 σ s.2 := MS.fr hn hw hs (fun j _ hj => f.2.2 j (by omega))
        obtain ⟨I1, e1, f1, z1, hm1⟩ := m_tries (N := N) hn hw (by omega) h0
        have hI1 := hIs.fs f1
        have hM1 : MS ν 317 0 σ I1 := MS.fr hn hw h0 (fun j _ hj => f1.2.2 j (by omega))
        have fu : FS 82 I1 (upd2 I1 317 82 (σ.up &&& (nI k ^^^ (-1)))) := FS.rf.u (by omega) (by omega)
        have hm2 : MS ν 317 82 (upS σ (σ.up &&& (nI k ^^^ (-1)))) (upd2 I1 317 82 (σ.up &&& (nI k ^^^ (-1)))) := MS_up hm1
        have hw2 : WfW ν (upS σ (σ.up &&& (nI k ^^^ (-1)))) := hw
        obtain ⟨I2, f2, -, hres⟩ := m_any (N := N) (b := 82) hn (hI1.fs fu) hm2 hw2 (by omega) hN ht
        have fT : FS 82 I I2 := ((f.tr f1).tr fu).tr (FS.fb f2)
        have up0 : I1 317 0 = σ.up := hM1.1
        have key : mX11_luck_47 N (nI t) (nI d) (nI (upM σ)) (n + 1) s.1 (nI k) s.2 = Option.bind (mX11_hasAny N 82 (nI t) (upd2 I1 317 82 (σ.up &&& (nI k ^^^ (-1))))) (fun (r21, I22) => if r21 = 0 then (mX11_luck_47 N (nI t) (nI d) (nI (upM σ)) n (s.1 + 0) (nI (k + 1)) I22) else (mX11_luck_47 N (nI t) (nI d) (nI (upM σ)) n (s.1 + lkC σ d k) (nI (k + 1)) I22)) := by
          rw [mX11_luck_47, if_neg (show ¬ (256 : Int32) ≤ nI k from nI_ge (b := 256) hk (by omega)), if_pos h1, m_lk74 hd (by omega) ((sub9_iff (by omega)).mp h1), ob_some, e1, ob_some, e0, e82, nm_n, up0, nI_1]
        have hrp : lkR ν σ t k = true ↔ ∃ p, IsP ν (opn ν (upS σ (σ.up &&& (nI k ^^^ (-1)))) t) (ν.T t 0) (ν.T t 1) (ν.T t 6) p := by
          unfold lkR
          rw [rch_isP]
          constructor
          · intro ⟨p, hp⟩
            exact ⟨p, hp.congr (fun i hi => (upd_opn (by omega)).symm)⟩
          · intro ⟨p, hp⟩
            exact ⟨p, hp.congr (fun i hi => upd_opn (by omega))⟩
        rcases hres with ⟨p, hp, e2, -⟩ | ⟨e2, hno⟩
        · refine ⟨(s.1 + lkC σ d k, I2), ?_, fT, ?_⟩
          · show mX11_luck_47 N (nI t) (nI d) (nI (upM σ)) (n + 1) s.1 (nI k) s.2 = _
            rw [key, show mX11_hasAny N 82 (nI t) (upd2 I1 317 82 (σ.up &&& (nI k ^^^ (-1)))) = some (1, I2) from e2, ob_some]
            dsimp only
            rw [if_neg (show ¬ (1 : Int32) = 0 by decide)]
          · show s.1 + _ = _
            rw [hP, lkS, if_pos ⟨h1, hrp.mpr ⟨p, hp.1⟩⟩]
        · refine ⟨(s.1 + 0, I2), ?_, fT, ?_⟩
          · show mX11_luck_47 N (nI t) (nI d) (nI (upM σ)) (n + 1) s.1 (nI k) s.2 = _
            rw [key, show mX11_hasAny N 82 (nI t) (upd2 I1 317 82 (σ.up &&& (nI k ^^^ (-1)))) = some (0, I2) from e2, ob_some]
            dsimp only
            rw [if_pos rfl]
          · show s.1 + 0 = _
            rw [z_add, hP, lkS, if_neg (fun h => by obtain ⟨p, hp⟩ := hrp.mp h.2; exact hno p hp)]
      · refine ⟨s, ?_, f, ?_⟩
        · show mX11_luck_47 N (nI t) (nI d) (nI (upM σ)) (n + 1) s.1 (nI k) s.2 = _
          rw [mX11_luck_47, if_neg (show ¬ (256 : Int32) ≤ nI k from nI_ge (b := 256) hk (by omega)), if_neg h1, nI_1]
        · rw [hP, lkS, if_neg (fun h => h1 h.1)])
    N 0 (0, I) (Nat.zero_le _) (by omega) ⟨FS.rf, rfl⟩
  exact ⟨s'.2, by rw [show mX11_luck_47 N (nI t) (nI d) (nI (upM σ)) N 0 0 I = some (s'.1, s'.2) from e, hP.2], hP.1⟩
theorem s_luck (hN : 100000000000 ≤ N) : St_luck N Inv := by
  intro c I J a1 a2 hc hInv
  obtain ⟨⟨ν, σ, ks, vs, hP⟩, mv⟩ := id hInv
  obtain ⟨hn, g, c1, m1, c2, m2, ac, sg, im, tp, ct⟩ := id hP
  have htn := hn.2.2.2.1
  have hww := g.wf hn
  have s0 : ∀ {K : gI}, Sm K (upd2 K 310 0 0) := Sm.rf.u0
  have m1' : NetM ν (upd2 I 310 0 0) := m1.sm s0
  have m2' : MS ν 317 0 σ (upd2 I 310 0 0) := m2.c (u2_c (by decide))
  rcases tun_ck hn a1 with ⟨t, ht, rfl, eC, eM⟩ | ⟨eC, eM⟩
  · have baseM : ∀ x, mX11_within a2 0 10 (upd2 I 310 0 0) = some x → mX11_luck N (nI t) a2 I = Option.bind (mX11_right x 2 (upd2 I 310 0 0)) (fun (r7, I8) => if r7 = 0 then (some (0, I8)) else (Option.bind (mX11_luck_47 N (nI t) a2 ((I8 317 (0 : Int32).toNatClampNeg) &&& 255) N 0 0 I8) (fun (y27, I28) => some (y27, I28)))) := by
      intro x hx
      unfold mX11_luck
      rw [eM _ m1' u2_at, ob_some]
      dsimp only
      rw [if_neg (show ¬ (1 : Int32) = 0 by decide), hx, ob_some]
    rcases wi_ck (lo := 0) (hi := 10) (by omega) (by omega) a2 with ⟨d, -, hd, rfl, eW⟩ | ⟨hno, eW⟩
    · obtain ⟨x, ex, hx⟩ := c_open (N := N) (u := 36) (σ := σ) hn c1 c2.1 (by omega) ht
      obtain ⟨I9, e9, f9⟩ := m_lk47 (N := N) (d := d) hn g m1' m2' hN ht hd
      refine ⟨.inl (lkS ν σ t d 256), lkS ν σ t d 256, I9, ?_, (fun E h => by cases h), ?_, (by rw [f9.2.1 0 (by simp), u2_at]; rfl), (fun v h => by cases h; rfl), hInv.sm (s0.tr (Sm.fs f9))⟩
      · unfold mX10_luck
        rw [eC I c1, lb_l, if_neg (nI_pos (by omega)), show (10 : Int32) = nI 10 from rfl, if_pos (nI_le hd (by omega)), ex, ob_some, show I 36 2 = σ.up from c2.1, show (256 : Int32) - 1 = 255 by decide, upM_eq, c_lk60 hn c1 (by omega) ht hd hx, ob_some]
      · rw [baseM 1 (eW _), m_right1 u2_at, ob_some]
        dsimp only
        rw [if_neg (show ¬ (1 : Int32) = 0 by decide), show (upd2 I 310 0 0) 317 (0 : Int32).toNatClampNeg = σ.up from m2'.1, upM_eq, e9, ob_some]
    · refine ⟨.inr xnA, 0, upd2 (upd2 I 310 0 0) 310 0 2, ?_, (fun E h => by cases h; exact Or.inr rfl), ?_, u2_at.trans (by decide), (fun v h => by cases h), hInv.sm s0.u0⟩
      · unfold mX10_luck
        rw [eC I c1, lb_l]
        rcases i_nn a2 with h | ⟨n, h1, rfl⟩
        · rw [if_pos h]
        · by_cases h2 : n ≤ 10
          · exact absurd rfl (hno n (by omega) h2)
          · rw [if_neg (nI_pos (by omega)), show (10 : Int32) = nI 10 from rfl, if_neg (nI_ge (by omega) (by omega))]
      · rw [baseM 0 (eW _), m_right0 u2_at (by decide), ob_some]
        dsimp only
        rw [if_pos rfl]
  · refine ⟨.inr xnN, 0, upd2 (upd2 I 310 0 0) 310 0 1, ?_, (fun E h => by cases h; exact Or.inl rfl), ?_, u2_at.trans (by decide), (fun v h => by cases h), hInv.sm s0.u0⟩
    · unfold mX10_luck
      rw [eC I c1, lb_r]
    · unfold mX11_luck
      rw [eM _ m1' u2_at, ob_some]
      dsimp only
      rw [if_pos rfl]
end LuckS
