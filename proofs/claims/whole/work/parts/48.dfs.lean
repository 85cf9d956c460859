/-! the reference: depth first over all ways, in the order of their links -/
def FM (I I' : gI) : Prop := (∀ c, c ∉ [310, 321, 322, 323, 324] → I' c = I c) ∧ ∀ j, j ∉ [32, 33, 34, 35] → I' 310 j = I 310 j
theorem FM.rf {I : gI} : FM I I := ⟨fun _ _ => rfl, fun _ _ => rfl⟩
theorem FM.tr {I I' I'' : gI} (h : FM I I') (h2 : FM I' I'') : FM I I'' := ⟨fun c hc => (h2.1 c hc).trans (h.1 c hc), fun j hj => (h2.2 j hj).trans (h.2 j hj)⟩
theorem FM.u {I I' : gI} (h : FM I I') {a j : Nat} {v : Int32} (ha : a ∈ [321, 322, 323, 324]) : FM I (upd2 I' a j v) := by
  refine ⟨fun c hc => (u2_c (fun e => hc (by rw [e]; simp at ha ⊢; omega))).trans (h.1 c hc), fun k hk => ?_⟩
  rw [u2_c (fun e => by rw [← e] at ha; simp at ha)]
  exact h.2 k hk
theorem FM.u0 {I I' : gI} (h : FM I I') {j : Nat} {v : Int32} (hj : j ∈ [32, 33, 34, 35]) : FM I (upd2 I' 310 j v) := by
  refine ⟨fun c hc => (u2_c (fun e => hc (by rw [e]; simp))).trans (h.1 c hc), fun k hk => ?_⟩
  rw [u2_ne (fun e => hk (by rw [e.2]; exact hj))]
  exact h.2 k hk
theorem NetM.fm {ν : Nt} {I I' : gI} (h : NetM ν I) (hf : FM I I') : NetM ν I' := by
  refine ⟨by rw [hf.2 13 (by simp)]; exact h.1, by rw [hf.2 14 (by simp)]; exact h.2.1, by rw [hf.2 15 (by simp)]; exact h.2.2.1, fun l hl j hj => by rw [hf.1 313 (by simp)]; exact h.2.2.2.1 l hl j hj, fun t ht j hj => by rw [hf.1 315 (by simp)]; exact h.2.2.2.2 t ht j hj⟩
def GoM (ν : Nt) (go : Nat → Bool) (wd : Nat → Int) (I : gI) : Prop := ∀ l, l < ν.ln → I 319 l = (if go l = true then 1 else 0) ∧ I 320 l = zI (wd l)
theorem GoM.fm {ν : Nt} {go : Nat → Bool} {wd : Nat → Int} {I I' : gI} (h : GoM ν go wd I) (hf : FM I I') : GoM ν go wd I' := fun l hl => by rw [hf.1 319 (by simp), hf.1 320 (by simp)]; exact h l hl
/-- strictly better: it takes the other one's place -/
def btr (ν : Nt) (wd : Nat → Int) (p q : List Nat) : Prop := mt ν p < mt ν q ∨ (mt ν p = mt ν q ∧ (p.length < q.length ∨ (p.length = q.length ∧ mw wd q < mw wd p)))
def btrb (ν : Nt) (wd : Nat → Int) (p q : List Nat) : Bool := decide (mt ν p < mt ν q) || (decide (mt ν p = mt ν q) && (decide (p.length < q.length) || (decide (p.length = q.length) && decide (mw wd q < mw wd p))))
theorem btrb_iff {ν : Nt} {wd : Nat → Int} {p q : List Nat} : btrb ν wd p q = true ↔ btr ν wd p q := by simp [btrb, btr]
/-- the best of a row of ways, the first of like ones -/
def bl (ν : Nt) (wd : Nat → Int) : List (List Nat) → Option (List Nat)
  | [] => none
  | p :: t => some (t.foldl (fun q x => if btrb ν wd x q = true then x else q) p)
theorem bl_snoc {ν : Nt} {wd : Nat → Int} (acc : List (List Nat)) (p : List Nat) : bl ν wd (acc ++ [p]) = some (match bl ν wd acc with | none => p | some q => if btrb ν wd p q = true then p else q) := by
  cases acc with
  | nil => rfl
  | cons x t => simp [bl, List.foldl_append]
/-- what is kept of the ways found so far -/
def Rec (ν : Nt) (wd : Nat → Int) (acc : List (List Nat)) (I : gI) : Prop :=
  I 310 35 = nI (if acc.length < 2048 then acc.length else 2048) ∧
  (∀ i, (hi : i < acc.length) → i < 2048 → I 323 i = wb acc[i] ∧ I 324 i = nI (mt ν acc[i])) ∧
  (match bl ν wd acc with
    | none => I 310 32 = -1
    | some p => I 310 32 = nI p.length ∧ I 310 33 = nI (mt ν p) ∧ I 310 34 = zI (mw wd p) ∧ ∀ k, (hk : k < p.length) → I 322 k = nI p[k])
section Dfs
variable {ν : Nt} {go : Nat → Bool} {wd : Nat → Int} {I : gI} {N z : Nat}
theorem sm_mem (f : Nat → Nat) (n : Nat) : ∀ (p : List Nat), p.Nodup → (∀ l ∈ p, l < n) → sm (fun l => if l ∈ p then (f l : Int) else 0) n = ((p.map f).sum : Nat)
  | [], _, _ => by simp; exact sm_0 n
  | x :: p, hd, h => by
    obtain ⟨h1, h2⟩ := List.nodup_cons.mp hd
    have hx := h x List.mem_cons_self
    rw [sm_one hx, if_pos List.mem_cons_self]
    have e : sm (fun k => if k = x then 0 else if k ∈ x :: p then (f k : Int) else 0) n = sm (fun l => if l ∈ p then (f l : Int) else 0) n := by
      apply sm_congr
      intro k hk
      by_cases hkx : k = x
      · subst hkx; rw [if_pos rfl, if_neg h1]
      · rw [if_neg hkx]
        simp [hkx]
    rw [e, sm_mem f n p h2 (fun l hl => h l (List.mem_cons_of_mem _ hl))]
    simp
    omega
theorem mt_sum : ∀ (p : List Nat), mt ν p = (p.map (fun l => ν.L l 2)).sum
  | [] => rfl
  | l :: p => by rw [mt, mt_sum p]; rfl
/-- the metric of a set of links -/
theorem m_metric (hn : WfN ν) (hI : NetM ν I) (hN : 100 ≤ N) {p : List Nat} (hd : p.Nodup) (hp : ∀ l ∈ p, l < ν.ln) : mX11_metric N (wb p) I = some (nI (mt ν p)) := by
  have hln := hn.2.2.1
  obtain ⟨v, hP, e⟩ := loopP (F := fun n v i => mX11_metric_4 (wb p) I n v i) (b := ν.ln) (out := id)
    (P := fun k v => v = zI (sm (fun l => if l ∈ p then (ν.L l 2 : Int) else 0) k))
    (fun n v _ => by
      show mX11_metric_4 (wb p) I (n + 1) v (nI ν.ln) = some v
      rw [mX11_metric_4, hI.2.1, if_pos (nI_le (Nat.le_refl _) (by omega))])
    (fun n k v hk hP => by
      refine ⟨_, ?_, rfl⟩
      show mX11_metric_4 (wb p) I (n + 1) v (nI k) = mX11_metric_4 (wb p) I n _ (nI (k + 1))
      have e5 : (5 : Int32) * nI k + 2 = nI (5 * k + 2) := by
        rw [show (5 : Int32) = nI 5 from rfl, nI_mul, show (2 : Int32) = nI 2 from rfl, nI_add]
      rw [mX11_metric_4, hI.2.1, if_neg (nI_ge hk (by omega)), e5, ck_n (by omega) (by decide), nI_clamp (by omega), hI.2.2.2.1 k hk 2 (by decide), nm_n, nI_1, mbv (by omega), b_wb (by omega) p (fun l hl => by have := hp l hl; omega), sm]
      subst hP
      by_cases hm : k ∈ p
      · rw [if_pos (by simp [hm]), if_pos hm, ← zI_addn]
        congr 2
        rw [show (1 : Int32) = nI 1 from rfl, nI_mul, Nat.one_mul]
      · rw [if_neg (by simp [hm]), if_neg hm, Int.add_zero]
        congr 1
        rw [show (0 : Int32) = nI 0 from rfl, nI_mul, Nat.zero_mul, zI_addn]
        simp)
    N 0 0 (Nat.zero_le _) (by omega) rfl
  unfold mX11_metric
  rw [show mX11_metric_4 (wb p) I N 0 0 = some v from e, ob_some, hP, sm_mem _ _ p hd hp, ← mt_sum, zI_nat]
/-- set and least width of the trail -/
def mnl (wd : Nat → Int) (v : Int) : List Nat → Int
  | [] => v
  | l :: p => mnl wd (if wd l ≤ v then wd l else v) p
theorem mnl_eq (hwd : ∀ l, wd l ≤ 1000) : ∀ (p : List Nat) (v : Int), v ≤ 999999 → mnl wd v p = if mw wd p < v then mw wd p else v
  | [], v, h => by rw [mnl, mw, if_neg (by omega)]
  | l :: p, v, h => by
    have := hwd l
    rw [mnl, mnl_eq hwd p _ (by split <;> omega), mw]
    by_cases h1 : wd l ≤ v
    · rw [if_pos h1]
      by_cases h2 : mw wd p < wd l
      · rw [if_pos h2, if_pos (by omega)]
      · rw [if_neg h2]
        split <;> omega
    · rw [if_neg h1]
      by_cases h2 : mw wd p < wd l
      · rw [if_pos h2]
      · rw [if_neg h2, if_neg (by omega), if_neg (by omega)]
theorem mnl_cons (v : Int) : ∀ (p : List Nat) (x : Nat), mnl wd v (p ++ [x]) = (if wd x ≤ mnl wd v p then wd x else mnl wd v p)
  | [], x => rfl
  | l :: p, x => by rw [List.cons_append, mnl, mnl, mnl_cons _ p x]
theorem orl_cons (v : Int32) : ∀ (p : List Nat) (x : Nat), orl v (p ++ [x]) = (orl v p ||| ((1 : Int32) <<< (nI x &&& 31)))
  | [], x => rfl
  | l :: p, x => by rw [List.cons_append, orl, orl, orl_cons _ p x]
theorem m_lb8 (hg : GoM ν go wd I) (hn : WfN ν) (hwd : ∀ l, l < ν.ln → -1000 ≤ wd l ∧ wd l ≤ 1000) (hN : 100 ≤ N) {p : List Nat} (hp : ∀ l ∈ p, l < ν.ln) (hl8 : p.length ≤ 7) (ht : ∀ k, (hk : k < p.length) → I 321 k = nI p[k]) : mX11_laysBest_8 (nI p.length) I N 0 999999 0 = some (orl 0 p, zI (mnl wd 999999 p)) := by
  have hln := hn.2.2.1
  have hmb : ∀ (q : List Nat) (v : Int), (∀ l ∈ q, l < ν.ln) → -1000 ≤ v → v ≤ 999999 → -1000 ≤ mnl wd v q ∧ mnl wd v q ≤ 999999 := by
    intro q
    induction q with
    | nil => intro v _ h1 h2; exact ⟨h1, h2⟩
    | cons l q ih =>
      intro v hq h1 h2
      have := hwd l (hq l List.mem_cons_self)
      rw [mnl]
      exact ih _ (fun x hx => hq x (List.mem_cons_of_mem _ hx)) (by split <;> omega) (by split <;> omega)
  obtain ⟨v, hP, e⟩ := loopP (F := fun n (v : Int32 × Int32) i => mX11_laysBest_8 (nI p.length) I n v.1 v.2 i) (b := p.length) (out := id)
    (P := fun k v => v = (orl 0 (p.take k), zI (mnl wd 999999 (p.take k))))
    (fun n v _ => by
      show mX11_laysBest_8 (nI p.length) I (n + 1) v.1 v.2 (nI p.length) = some v
      rw [mX11_laysBest_8, if_pos (nI_le (Nat.le_refl _) (by omega))])
    (fun n k v hk hP => by
      refine ⟨_, ?_, rfl⟩
      show mX11_laysBest_8 (nI p.length) I (n + 1) v.1 v.2 (nI k) = mX11_laysBest_8 (nI p.length) I n _ _ (nI (k + 1))
      have hpk := hp p[k] (List.getElem_mem hk)
      have hb := hmb (p.take k) 999999 (fun l hl => hp l (List.mem_of_mem_take hl)) (by omega) (by omega)
      have hw := hwd p[k] hpk
      have etk : p.take (k + 1) = p.take k ++ [p[k]] := by rw [List.take_succ_eq_append_getElem hk]
      rw [mX11_laysBest_8, if_neg (nI_ge hk (by omega)), ck_n (by omega) (by decide), nI_clamp (by omega), ht k hk, nm_n, ck_n (by omega) (by decide), nI_clamp (by omega), (hg _ hpk).2, etk, orl_cons, mnl_cons, nI_1, hP]
      show Option.bind (mX11_lesser (zI _) (zI _) I) _ = _
      unfold mX11_lesser
      by_cases hc : wd p[k] ≤ mnl wd 999999 (p.take k)
      · rw [if_pos ((zI_le ⟨by omega, by omega⟩ ⟨by omega, by omega⟩).mpr hc), if_pos hc, ob_some]
      · rw [if_neg (fun h => hc ((zI_le ⟨by omega, by omega⟩ ⟨by omega, by omega⟩).mp h)), if_neg hc, ob_some])
    N 0 (0, 999999) (Nat.zero_le _) (by omega) (by rw [List.take_zero]; rfl)
  have e' : mX11_laysBest_8 (nI p.length) I N 0 999999 0 = some v := e
  rw [e', hP, List.take_length]
theorem m_lb194 (hN : 100 ≤ N) {p : List Nat} (hl8 : p.length ≤ 7) (ht : ∀ k, (hk : k < p.length) → I 321 k = nI p[k]) : ∃ I', mX11_laysBest_194 (nI p.length) N 0 I = some I' ∧ (∀ c, c ≠ 322 → I' c = I c) ∧ ∀ k, (hk : k < p.length) → I' 322 k = nI p[k] := by
  obtain ⟨I', hP, e⟩ := loopP (F := fun n s i => mX11_laysBest_194 (nI p.length) n i s) (b := p.length) (out := id)
    (P := fun k s => (∀ c, c ≠ 322 → s c = I c) ∧ ∀ j, (hj : j < p.length) → j < k → s 322 j = nI p[j])
    (fun n s _ => by
      show mX11_laysBest_194 (nI p.length) (n + 1) (nI p.length) s = some s
      rw [mX11_laysBest_194, if_pos (nI_le (Nat.le_refl _) (by omega))])
    (fun n k s hk hP => by
      refine ⟨upd2 s 322 k (nI p[k]), ?_, fun c hc => (u2_c hc).trans (hP.1 c hc), fun j hj hjk => ?_⟩
      · show mX11_laysBest_194 (nI p.length) (n + 1) (nI k) s = mX11_laysBest_194 (nI p.length) n (nI (k + 1)) _
        rw [mX11_laysBest_194, if_neg (nI_ge hk (by omega)), ck_n (by omega) (by decide), ck_n (by omega) (by decide), nI_clamp (by omega), hP.1 321 (by decide), ht k hk, nI_1]
      · by_cases h : j = k
        · subst h; exact u2_at
        · rw [u2_ne (by omega)]; exact hP.2 j hj (by omega))
    N 0 I (Nat.zero_le _) (by omega) ⟨fun _ _ => rfl, fun j _ h => by omega⟩
  exact ⟨I', e, hP.1, fun k hk => hP.2 k hk hk⟩
set_option maxHeartbeats 4000000 in
/-- a way is found -/
theorem m_lays (hn : WfN ν) (hI : NetM ν I) (hg : GoM ν go wd I) (hwd : ∀ l, -1000 ≤ wd l ∧ wd l ≤ 1000) (hN : 100 ≤ N) {acc : List (List Nat)} (hR : Rec ν wd acc I) (hacc : ∀ q ∈ acc, q.length ≤ 7 ∧ (∀ l ∈ q, l < ν.ln)) {p : List Nat} (hp0 : p ≠ []) (hd : p.Nodup) (hp : ∀ l ∈ p, l < ν.ln) (hl8 : p.length ≤ 7) (ht : ∀ k, (hk : k < p.length) → I 321 k = nI p[k]) :
    ∃ I', mX11_laysBest N (nI p.length) I = some I' ∧ FM I I' ∧ I' 321 = I 321 ∧ Rec ν wd (acc ++ [p]) I' := by
  have hln := hn.2.2.1
  have hmb : ∀ q : List Nat, (∀ l ∈ q, l < ν.ln) → q.length ≤ 7 → mt ν q ≤ 693 := fun q h1 h2 => by have := mt_le hn h1; omega
  have hwb : ∀ q : List Nat, -1000 ≤ mw wd q ∧ mw wd q ≤ 1000000 := by
    intro q
    refine ⟨mw_ge (by omega) (fun l _ => (hwd l).1), ?_⟩
    cases q with
    | nil => exact Int.le_refl _
    | cons l q => have := (hwd l).2; rw [mw]; split <;> omega
  have hmn : mnl wd 999999 p = mw wd p := by
    rw [mnl_eq (fun l => (hwd l).2) p 999999 (by omega), if_pos]
    cases p with
    | nil => exact absurd rfl hp0
    | cons l q => have := (hwd l).2; rw [mw]; split <;> omega
  -- the row of all
  obtain ⟨I1, e1, f1, h321, h35, hall, h32, h33, h34, h322⟩ : ∃ I1, (if 2048 ≤ (I 310 35) then (some I) else (ck (I 310 35) 2048 (ck ((upd2 I 323 (I 310 35).toNatClampNeg (wb p)) 310 35) 2048 (nm (upd2 (upd2 I 323 (I 310 35).toNatClampNeg (wb p)) 324 ((upd2 I 323 (I 310 35).toNatClampNeg (wb p)) 310 35).toNatClampNeg (nI (mt ν p))) (fun I16 => some (upd2 I16 310 35 ((I16 310 35) + 1)))))) : Option gI) = some I1 ∧ FM I I1 ∧ I1 321 = I 321 ∧ I1 310 35 = nI (if (acc ++ [p]).length < 2048 then (acc ++ [p]).length else 2048) ∧ (∀ i, (hi : i < (acc ++ [p]).length) → i < 2048 → I1 323 i = wb (acc ++ [p])[i] ∧ I1 324 i = nI (mt ν (acc ++ [p])[i])) ∧ I1 310 32 = I 310 32 ∧ I1 310 33 = I 310 33 ∧ I1 310 34 = I 310 34 ∧ I1 322 = I 322 := by
    by_cases hc : acc.length < 2048
    · have e35 : I 310 35 = nI acc.length := by rw [hR.1, if_pos hc]
      refine ⟨upd2 (upd2 (upd2 I 323 acc.length (wb p)) 324 acc.length (nI (mt ν p))) 310 35 (nI (acc.length + 1)), ?_, ((FM.rf.u (by simp)).u (by simp)).u0 (by simp), ?_, ?_, fun i hi hi2 => ?_, ?_, ?_, ?_, ?_⟩
      · rw [e35, if_neg (show ¬ (2048 : Int32) ≤ nI acc.length from nI_ge (b := 2048) hc (by decide)), ck_n hc (by decide), nI_clamp (by omega), u2_c (by decide), e35, ck_n hc (by decide), nI_clamp (by omega), nm_n, u2_c (by decide), u2_c (by decide), e35, nI_1]
      · rw [u2_c (by decide), u2_c (by decide), u2_c (by decide)]
      · rw [u2_at, List.length_append]
        show nI (acc.length + 1) = nI (if acc.length + 1 < 2048 then acc.length + 1 else 2048)
        congr 1
        split <;> omega
      · have a1 : upd2 (upd2 (upd2 I 323 acc.length (wb p)) 324 acc.length (nI (mt ν p))) 310 35 (nI (acc.length + 1)) 323 i = upd2 I 323 acc.length (wb p) 323 i := by rw [u2_c (by decide), u2_c (by decide)]
        have a2 : upd2 (upd2 (upd2 I 323 acc.length (wb p)) 324 acc.length (nI (mt ν p))) 310 35 (nI (acc.length + 1)) 324 i = upd2 (upd2 I 323 acc.length (wb p)) 324 acc.length (nI (mt ν p)) 324 i := by rw [u2_c (by decide)]
        rw [a1, a2]
        by_cases hia : i = acc.length
        · subst hia
          rw [u2_at, u2_at]
          simp
        · have hi' : i < acc.length := by simp at hi; omega
          rw [u2_ne (by omega), u2_ne (by omega), u2_c (by decide), List.getElem_append_left hi']
          exact hR.2.1 i hi' hi2
      · rw [u2_ne (by decide), u2_c (by decide), u2_c (by decide)]
      · rw [u2_ne (by decide), u2_c (by decide), u2_c (by decide)]
      · rw [u2_ne (by decide), u2_c (by decide), u2_c (by decide)]
      · rw [u2_c (by decide), u2_c (by decide), u2_c (by decide)]
    · have e35 : I 310 35 = nI 2048 := by rw [hR.1, if_neg hc]
      refine ⟨I, by rw [e35, if_pos (show (2048 : Int32) ≤ nI 2048 from nI_le (Nat.le_refl _) (by decide))], FM.rf, rfl, ?_, fun i hi hi2 => ?_, rfl, rfl, rfl, rfl⟩
      · rw [e35, List.length_append]
        show _ = nI (if acc.length + 1 < 2048 then acc.length + 1 else 2048)
        rw [if_neg (by omega)]
      · have hi' : i < acc.length := by omega
        rw [List.getElem_append_left hi']
        exact hR.2.1 i hi' hi2
  have ht1 : ∀ k, (hk : k < p.length) → I1 321 k = nI p[k] := by rw [h321]; exact ht
  -- a new best one
  have newb : ∀ I2, I2 = upd2 (upd2 (upd2 I1 310 32 (nI p.length)) 310 33 (nI (mt ν p))) 310 34 (zI (mw wd p)) → ∃ I', mX11_laysBest_194 (nI p.length) N 0 I2 = some I' ∧ FM I I' ∧ I' 321 = I 321 ∧ I' 310 35 = I1 310 35 ∧ I' 323 = I1 323 ∧ I' 324 = I1 324 ∧ I' 310 32 = nI p.length ∧ I' 310 33 = nI (mt ν p) ∧ I' 310 34 = zI (mw wd p) ∧ ∀ k, (hk : k < p.length) → I' 322 k = nI p[k] := by
    intro I2 h2
    have t2 : ∀ k, (hk : k < p.length) → I2 321 k = nI p[k] := by
      intro k hk
      rw [h2, u2_c (by decide), u2_c (by decide), u2_c (by decide)]
      exact ht1 k hk
    obtain ⟨I', e, c, d⟩ := m_lb194 hN hl8 t2
    have f2 : FM I I2 := by rw [h2]; exact ((f1.u0 (by simp)).u0 (by simp)).u0 (by simp)
    refine ⟨I', e, ⟨fun x hx => (c x (fun e => hx (by rw [e]; simp))).trans (f2.1 x hx), fun j hj => by rw [c 310 (by decide)]; exact f2.2 j hj⟩, ?_, ?_, ?_, ?_, ?_, ?_, ?_, d⟩
    · rw [c 321 (by decide), h2, u2_c (by decide), u2_c (by decide), u2_c (by decide), h321]
    · rw [c 310 (by decide), h2, u2_ne (by decide), u2_ne (by decide), u2_ne (by decide)]
    · rw [c 323 (by decide), h2, u2_c (by decide), u2_c (by decide), u2_c (by decide)]
    · rw [c 324 (by decide), h2, u2_c (by decide), u2_c (by decide), u2_c (by decide)]
    · rw [c 310 (by decide), h2, u2_ne (by decide), u2_ne (by decide), u2_at]
    · rw [c 310 (by decide), h2, u2_ne (by decide), u2_at]
    · rw [c 310 (by decide), h2, u2_at]
  have unf : mX11_laysBest N (nI p.length) I = Option.bind (if (I1 310 32) = (-1) then (some 1) else (if (I1 310 33) ≤ nI (mt ν p) then (some 0) else (some 1)) : Option (Int32)) (fun x18 => Option.bind (if (I1 310 32) = (-1) then (some x18) else (if nI (mt ν p) = (I1 310 33) then (if nI p.length < (I1 310 32) then (some 1) else (if nI p.length = (I1 310 32) then (if zI (mw wd p) ≤ (I1 310 34) then (some 0) else (some 1)) else (some 0))) else (some x18)) : Option (Int32)) (fun x21 => if x21 = 0 then (some I1) else (Option.bind (mX11_laysBest_194 (nI p.length) N 0 (upd2 (upd2 (upd2 I1 310 32 (nI p.length)) 310 33 (nI (mt ν p))) 310 34 (zI (mw wd p)))) (fun I31 => some I31)))) := by
    unfold mX11_laysBest
    rw [m_lb8 hg hn (fun l _ => hwd l) hN hp hl8 ht, ob_some]
    show Option.bind (mX11_metric N (orl 0 p) I) _ = _
    rw [orl_wb (fun l hl => by have := hp l hl; omega), m_metric hn hI hN hd hp, ob_some, hmn, e1, ob_some]
  obtain ⟨I', hnew, fN, nN1, nN2, nN3, nN4, nN5, nN6, nN7, nN8⟩ := newb _ rfl
  have Rnew : (match bl ν wd acc with | none => p | some q => if btrb ν wd p q = true then p else q) = p → Rec ν wd (acc ++ [p]) I' := by
    intro he
    refine ⟨by rw [nN2]; exact h35, fun i hi hi2 => by rw [nN3, nN4]; exact hall i hi hi2, ?_⟩
    rw [bl_snoc, he]
    exact ⟨nN5, nN6, nN7, nN8⟩
  have Rold : ∀ q, bl ν wd acc = some q → btrb ν wd p q = false → Rec ν wd (acc ++ [p]) I1 := by
    intro q hq hb
    refine ⟨h35, hall, ?_⟩
    have h3 := hR.2.2
    rw [hq] at h3
    have h8 : (match bl ν wd acc with | none => p | some q => if btrb ν wd p q = true then p else q) = q := by
      rw [hq]
      exact if_neg (by rw [hb]; decide)
    rw [bl_snoc, h8]
    refine ⟨by rw [h32]; exact h3.1, by rw [h33]; exact h3.2.1, by rw [h34]; exact h3.2.2.1, by rw [h322]; exact h3.2.2.2⟩
  cases hb : bl ν wd acc with
  | none =>
    have h3 := hR.2.2
    rw [hb] at h3
    refine ⟨I', ?_, fN, nN1, Rnew (by rw [hb])⟩
    rw [unf, h32, h3, if_pos rfl, ob_some, if_pos rfl, ob_some, if_neg (by decide), hnew, ob_some]
  | some q =>
    have h3 := hR.2.2
    rw [hb] at h3
    obtain ⟨g1, g2, g3, g4⟩ := h3
    have hq : q ∈ acc := by
      have : ∀ (t : List (List Nat)) (x : List Nat), t.foldl (fun q x => if btrb ν wd x q = true then x else q) x = x ∨ t.foldl (fun q x => if btrb ν wd x q = true then x else q) x ∈ t := by
        intro t
        induction t with
        | nil => intro x; exact Or.inl rfl
        | cons y t ih =>
          intro x
          rw [List.foldl_cons]
          rcases ih (if btrb ν wd y x = true then y else x) with h | h
          · rw [h]
            split
            · exact Or.inr List.mem_cons_self
            · exact Or.inl rfl
          · exact Or.inr (List.mem_cons_of_mem _ h)
      cases acc with
      | nil => cases hb
      | cons x t =>
        cases hb
        rcases this t x with h | h
        · rw [h]; exact List.mem_cons_self
        · exact List.mem_cons_of_mem _ h
    have hq7 := (hacc q hq).1
    have hqm := hmb q (hacc q hq).2 hq7
    have hpm := hmb p hp hl8
    have w1 := hwb p
    have w2 := hwb q
    have out : (btr ν wd p q → mX11_laysBest N (nI p.length) I = some I') ∧ (¬ btr ν wd p q → mX11_laysBest N (nI p.length) I = some I1) := by
      rw [unf, h32, h33, h34, g1, g2, g3, if_neg (nI_m1 (by omega))]
      by_cases c1 : mt ν p < mt ν q
      · rw [if_neg (nI_ge c1 (by omega)), ob_some, if_neg (nI_m1 (by omega)), if_neg (fun h => by rw [nI_eq (by omega) (by omega)] at h; omega), ob_some, if_neg (by decide), hnew, ob_some]
        exact ⟨fun _ => rfl, fun h => absurd (Or.inl c1) h⟩
      · rw [if_pos (nI_le (by omega) (by omega)), ob_some, if_neg (nI_m1 (by omega))]
        by_cases c2 : mt ν p = mt ν q
        · rw [if_pos (by rw [c2])]
          by_cases c3 : p.length < q.length
          · rw [if_pos (nI_lt c3 (by omega)), ob_some, if_neg (by decide), hnew, ob_some]
            exact ⟨fun _ => rfl, fun h => absurd (Or.inr ⟨c2, Or.inl c3⟩) h⟩
          · rw [if_neg (nI_nlt (by omega) (by omega))]
            by_cases c4 : p.length = q.length
            · rw [if_pos (by rw [c4])]
              by_cases c5 : mw wd q < mw wd p
              · rw [if_neg (fun h => by rw [zI_le ⟨by omega, by omega⟩ ⟨by omega, by omega⟩] at h; omega), ob_some, if_neg (by decide), hnew, ob_some]
                exact ⟨fun _ => rfl, fun h => absurd (Or.inr ⟨c2, Or.inr ⟨c4, c5⟩⟩) h⟩
              · rw [if_pos (by rw [zI_le ⟨by omega, by omega⟩ ⟨by omega, by omega⟩]; omega), ob_some, if_pos rfl]
                refine ⟨fun h => ?_, fun _ => rfl⟩
                rcases h with h | ⟨-, h | ⟨-, h⟩⟩
                · exact absurd h c1
                · exact absurd h c3
                · exact absurd h c5
            · rw [if_neg (fun h => c4 ((nI_eq (by omega) (by omega)).mp h)), ob_some, if_pos rfl]
              refine ⟨fun h => ?_, fun _ => rfl⟩
              rcases h with h | ⟨-, h | ⟨h, -⟩⟩
              · exact absurd h c1
              · exact absurd h c3
              · exact absurd h c4
        · rw [if_neg (fun h => c2 ((nI_eq (by omega) (by omega)).mp h)), ob_some, if_pos rfl]
          refine ⟨fun h => ?_, fun _ => rfl⟩
          rcases h with h | ⟨h, -⟩
          · exact absurd h c1
          · exact absurd h c2
    by_cases hbt : btr ν wd p q
    · exact ⟨I', out.1 hbt, fN, nN1, Rnew (by rw [hb]; exact if_pos (btrb_iff.mpr hbt))⟩
    · exact ⟨I1, out.2 hbt, f1, h321, Rold q hb (by cases hx : btrb ν wd p q with | false => rfl | true => exact absurd (btrb_iff.mp hx) hbt)⟩
end Dfs
