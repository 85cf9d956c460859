/-! other -/
section Oth1
variable {ν : Nt} {σ : St} {N l : Nat} {I I0 : gI} {vs : List (Nat → Nat)}
def tkL (ν : Nt) (σ : St) (l : Nat) : Int := (ν.L l 3 : Int) - pl ν σ 99 l 7
def okc (ν : Nt) (σ : St) (vs : List (Nat → Nat)) (l c : Nat) : Bool := decide (c ≠ ν.L l 3) && (decide (tkL ν σ l ≤ (c : Int)) && allS (capS ν l c) σ vs)
theorem okc_iff {c : Nat} : okc ν σ vs l c = true ↔ c ≠ ν.L l 3 ∧ tkL ν σ l ≤ (c : Int) ∧ allS (capS ν l c) σ vs = true := by
  unfold okc
  simp
def totO (ν : Nt) (σ : St) (vs : List (Nat → Nat)) : Nat → Nat
  | 0 => 0
  | k + 1 => totO ν σ vs k + cfO (okc ν σ vs k) 20
def fstO (ν : Nt) (σ : St) (vs : List (Nat → Nat)) : Nat → Option Nat
  | 0 => none
  | k + 1 => (fstO ν σ vs k).or ((ffO (okc ν σ vs k) 20).map (fun c => 100 * k + c))
theorem fst_le {y : Nat} : ∀ {k : Nat}, k ≤ 16 → fstO ν σ vs k = some y → y ≤ 1620
  | 0, _, h => by cases h
  | k + 1, hk, h => by
    rw [fstO] at h
    cases h1 : fstO ν σ vs k with
    | some x => rw [h1] at h; simp at h; rw [← h]; exact fst_le (by omega) h1
    | none =>
      rw [h1] at h
      cases h2 : ffO (okc ν σ vs k) 20 with
      | none => rw [h2] at h; simp at h
      | some c =>
        rw [h2] at h
        simp at h
        have := ff_le h2
        omega
theorem fst_mono {y : Nat} {k : Nat} (h : fstO ν σ vs k = some y) : ∀ {j : Nat}, k ≤ j → fstO ν σ vs j = some y
  | 0, hj => by rw [show k = 0 by omega] at h; exact h
  | j + 1, hj => by
    by_cases e : k = j + 1
    · rw [← e]; exact h
    · rw [fstO, fst_mono h (by omega)]; rfl
/-- one link -/
theorem c_olink (hn : WfN ν) (hI : NetC ν I) (hs : CS ν 36 σ I) (hw : WfW ν σ) (hN : 100 ≤ N) (hv8 : vs.length ≤ 8) (hv : ∀ v ∈ vs, SnOk ν v) (hg : SgC vs I) (hl : l < ν.ln) (v : Int32) : ∃ K r4, mX7_bound N 36 (nI l) I = some K ∧ G7 I K ∧ mX2_taken N 36 (nI l) K = some r4 ∧ mX10_otherCapacities_73 0 (nI l) (if 20 < (K 173 7) then 20 else (K 173 7)) K N v (if (K 173 6) < (if 1 < r4 then r4 else 1) then (if 1 < r4 then r4 else 1) else (K 173 6)) = some (.inl (v + nI (cfO (okc ν σ vs l) 20))) ∧ mX10_otherCapacities_73 1 (nI l) (if 20 < (K 173 7) then 20 else (K 173 7)) K N v (if (K 173 6) < (if 1 < r4 then r4 else 1) then (if 1 < r4 then r4 else 1) else (K 173 6)) = some (match ffO (okc ν σ vs l) 20 with | none => .inl v | some c' => .inr (nI (100 * l + c'), K)) := by
  have hln := hn.2.2.1
  have hL := hn.2.2.2.2.1 l hl
  obtain ⟨K, lo, hi, eK, g7, k6, k7, b1, b2, b3, b4, hcc⟩ := c_bound (N := N) hn hI hs hw hN hv8 hv hg hl
  have hIK := hI.fr g7.fr (by simp)
  have hsK := hs.fr g7.fr (by simp) (by simp) (by simp)
  have hbp := pl_sml (x := 99) (p := 7) hn hw hl
  obtain ⟨tk, htk⟩ : ∃ tk, tk = tkL ν σ l := ⟨_, rfl⟩
  have htk' : tk = (ν.L l 3 : Int) - pl ν σ 99 l 7 := htk
  have e1 : (if (1 : Int32) < zI tk then zI tk else 1) = zI (if 1 < tk then tk else 1) := by
    rw [show (1 : Int32) = zI 1 from rfl]
    by_cases h : 1 < tk
    · rw [if_pos h, if_pos ((zI_lt ⟨by omega, by omega⟩ ⟨by omega, by omega⟩).mpr h)]
    · rw [if_neg h, if_neg (fun h' => h ((zI_lt ⟨by omega, by omega⟩ ⟨by omega, by omega⟩).mp h'))]
  obtain ⟨m1, hm1⟩ : ∃ m1, m1 = if 1 < tk then tk else 1 := ⟨_, rfl⟩
  have hm1b : 1 ≤ m1 ∧ m1 ≤ 1000 ∧ tk ≤ m1 := by rw [hm1]; split <;> omega
  obtain ⟨b, hb⟩ : ∃ b, b = if lo < m1 then m1 else lo := ⟨_, rfl⟩
  have hbb : 1 ≤ b ∧ b ≤ 2000 ∧ tk ≤ b ∧ lo ≤ b ∧ ∀ c : Int, 1 ≤ c → tk ≤ c → lo ≤ c → b ≤ c := by
    rw [hb]
    refine ⟨?_, ?_, ?_, ?_, fun c h1 h2 h3 => ?_⟩
    · split <;> omega
    · split <;> omega
    · split <;> omega
    · split <;> omega
    · rw [hm1]; split <;> (try split) <;> omega
  have e2 : (if zI lo < zI m1 then zI m1 else zI lo) = zI b := by
    rw [hb]
    by_cases h : lo < m1
    · rw [if_pos h, if_pos ((zI_lt ⟨by omega, by omega⟩ ⟨by omega, by omega⟩).mpr h)]
    · rw [if_neg h, if_neg (fun h' => h ((zI_lt ⟨by omega, by omega⟩ ⟨by omega, by omega⟩).mp h'))]
  obtain ⟨hi', hhi⟩ : ∃ hi', hi' = if 20 < hi then 20 else hi := ⟨_, rfl⟩
  have hhb : hi' ≤ 20 ∧ -1000 ≤ hi' := by rw [hhi]; split <;> omega
  have e3 : (if (20 : Int32) < zI hi then 20 else zI hi) = zI hi' := by
    rw [hhi, show (20 : Int32) = zI 20 from rfl]
    by_cases h : 20 < hi
    · rw [if_pos h, if_pos ((zI_lt ⟨by omega, by omega⟩ ⟨by omega, by omega⟩).mpr h)]
    · rw [if_neg h, if_neg (fun h' => h ((zI_lt ⟨by omega, by omega⟩ ⟨by omega, by omega⟩).mp h'))]
  have hok : ∀ c : Nat, 1 ≤ c → c ≤ 20 → b ≤ (c : Int) → (okc ν σ vs l c = true ↔ c ≠ ν.L l 3 ∧ (c : Int) ≤ hi') := fun c q1 q2 q3 => by
    rw [okc_iff, hcc c, ← htk]
    have : hi' = if 20 < hi then 20 else hi := hhi
    by_cases h : 20 < hi
    · rw [if_pos h] at this
      constructor
      · intro hx; exact ⟨hx.1, by omega⟩
      · intro hx; exact ⟨hx.1, by omega, Or.inl ⟨by omega, by omega⟩⟩
    · rw [if_neg h] at this
      constructor
      · intro hx; exact ⟨hx.1, by omega⟩
      · intro hx; exact ⟨hx.1, by omega, Or.inl ⟨by omega, by omega⟩⟩
  have hlow : ∀ c : Nat, 1 ≤ c → c ≤ 20 → (c : Int) < b → okc ν σ vs l c = false := fun c q1 q2 q3 => by
    cases hx : okc ν σ vs l c with
    | false => rfl
    | true =>
      rw [okc_iff, hcc c, ← htk] at hx
      have := hbb.2.2.2.2 (c : Int) (by omega) hx.2.1 (by omega)
      omega
  have hcap : K 6 l = nI (ν.L l 3) := hIK.2.2.2.1 l hl 3 (by decide)
  refine ⟨K, zI tk, eK, g7, by rw [c_taken hn hIK hsK hw hN hl, htk'], ?_⟩
  rw [k6, k7, e1, ← hm1, e2, e3]
  by_cases hb20 : b ≤ 20
  · obtain ⟨c0, hc0⟩ : ∃ c0 : Nat, b = (c0 : Int) := ⟨_, (Int.toNat_of_nonneg (by omega)).symm⟩
    obtain ⟨q1, q2⟩ := c_o73 (ν := ν) (I := K) (ok := okc ν σ vs l) (lo := b) (hi := hi') (l := l) (by omega) trivial hcap (by omega) hhb.1 hhb.2 hok (21 - c0) N c0 v (by omega) (by omega) (by omega) (by omega)
    obtain ⟨r1, r2⟩ := cf_skip (ok := okc ν σ vs l) (b := c0) (fun c h1 h2 => hlow c h1 (by omega) (by omega)) (m := 20) (by omega) (by omega) (by omega)
    rw [hc0, zI_nat, r1, r2]
    exact ⟨q1, q2⟩
  · obtain ⟨z1, z2⟩ := cf_0 (ok := okc ν σ vs l) (m := 20) (by omega) (fun c h1 h2 => hlow c (by omega) h2 (by omega))
    obtain ⟨n, hn1⟩ : ∃ n, N = n + 1 := ⟨N - 1, by omega⟩
    have hlt : zI hi' < zI b := (zI_lt ⟨by omega, by omega⟩ ⟨by omega, by omega⟩).mpr (by omega)
    rw [z1, z2, nI_0', z_add, hn1]
    refine ⟨?_, ?_⟩
    · rw [mX10_otherCapacities_73, if_pos hlt]
    · rw [mX10_otherCapacities_73, if_pos hlt]
theorem c_count0 (hn : WfN ν) (hI : NetC ν I) (hs : CS ν 36 σ I) (hw : WfW ν σ) (hN : 100 ≤ N) (hv8 : vs.length ≤ 8) (hv : ∀ v ∈ vs, SnOk ν v) (hg : SgC vs I) : ∃ K, mX10_otherCapacities N 0 I = some (nI (totO ν σ vs ν.ln), K) ∧ G7 I K := by
  have hln := hn.2.2.1
  obtain ⟨s', hP, e⟩ := loopP (F := fun n (s : Int32 × gI) i => mX10_otherCapacities_4 N 0 n s.1 i s.2) (b := ν.ln) (out := fun s => Sum.inl (s.1, s.2))
    (P := fun k s => s.1 = nI (totO ν σ vs k) ∧ G7 I s.2)
    (fun n s hP => by
      show mX10_otherCapacities_4 N 0 (n + 1) s.1 (nI ν.ln) s.2 = some (.inl (s.1, s.2))
      rw [mX10_otherCapacities_4, (hI.fr hP.2.fr (by simp)).2.1, if_pos (nI_le (Nat.le_refl _) (by omega))])
    (fun n k s hk hP => by
      obtain ⟨p1, g7⟩ := hP
      obtain ⟨K, r4, e1, g1, e2, e3, -⟩ := c_olink (N := N) hn (hI.fr g7.fr (by simp)) (hs.fr g7.fr (by simp) (by simp) (by simp)) hw hN hv8 hv (hg.g7 g7) hk s.1
      refine ⟨(nI (totO ν σ vs (k + 1)), K), ?_, rfl, g7.tr g1⟩
      show mX10_otherCapacities_4 N 0 (n + 1) s.1 (nI k) s.2 = mX10_otherCapacities_4 N 0 n _ (nI (k + 1)) _
      rw [mX10_otherCapacities_4, (hI.fr g7.fr (by simp)).2.1, if_neg (nI_ge hk (by omega)), e1, ob_some, e2, ob_some, nm_n, e3, lb_l, nI_1, p1, nI_add, totO])
    N 0 (0, I) (Nat.zero_le _) (by omega) ⟨rfl, G7.rf⟩
  refine ⟨s'.2, ?_, hP.2⟩
  unfold mX10_otherCapacities
  rw [show mX10_otherCapacities_4 N 0 N 0 0 I = _ from e, lb_l]
  dsimp only
  rw [if_pos rfl, hP.1]
theorem c_first1 (hn : WfN ν) (hI : NetC ν I) (hs : CS ν 36 σ I) (hw : WfW ν σ) (hN : 100 ≤ N) (hv8 : vs.length ≤ 8) (hv : ∀ v ∈ vs, SnOk ν v) (hg : SgC vs I) : ∃ K, mX10_otherCapacities N 1 I = some (eO (fstO ν σ vs ν.ln), K) ∧ G7 I K := by
  have hln := hn.2.2.1
  have h9 := loopR (F := fun n K i => mX10_otherCapacities_4 N 1 n 0 i K) (b := ν.ln) (out := fun K => Sum.inl (0, K)) (Qr := fun r => ∃ y K, r = .inr (nI y, K) ∧ fstO ν σ vs ν.ln = some y ∧ G7 I K)
    (P := fun k K => fstO ν σ vs k = none ∧ G7 I K)
    (fun n K hP => by
      show mX10_otherCapacities_4 N 1 (n + 1) 0 (nI ν.ln) K = some (.inl (0, K))
      rw [mX10_otherCapacities_4, (hI.fr hP.2.fr (by simp)).2.1, if_pos (nI_le (Nat.le_refl _) (by omega))])
    (fun n k K hk hP => by
      obtain ⟨p1, g7⟩ := hP
      obtain ⟨K', r4, e1, g1, e2, -, e3⟩ := c_olink (N := N) hn (hI.fr g7.fr (by simp)) (hs.fr g7.fr (by simp) (by simp) (by simp)) hw hN hv8 hv (hg.g7 g7) hk 0
      have base : mX10_otherCapacities_4 N 1 (n + 1) 0 (nI k) K = lbind (some (match ffO (okc ν σ vs k) 20 with | none => .inl 0 | some c' => .inr (nI (100 * k + c'), K')) : Option (Int32 ⊕ (Int32 × gI))) (fun y12 => mX10_otherCapacities_4 N 1 n y12 (nI (k + 1)) K') (fun (r15, I16) => some (.inr (r15, I16))) := by
        rw [mX10_otherCapacities_4, (hI.fr g7.fr (by simp)).2.1, if_neg (nI_ge hk (by omega)), e1, ob_some, e2, ob_some, nm_n, e3, nI_1]
      cases hf : ffO (okc ν σ vs k) 20 with
      | none =>
        left
        rw [hf] at base
        exact ⟨K', base, by rw [fstO, p1, hf]; rfl, g7.tr g1⟩
      | some c' =>
        right
        rw [hf] at base
        refine ⟨_, base, 100 * k + c', K', rfl, ?_, g7.tr g1⟩
        have h1 : fstO ν σ vs (k + 1) = some (100 * k + c') := by rw [fstO, p1, hf]; rfl
        exact fst_mono h1 (by omega))
    N 0 I (Nat.zero_le _) (by omega) ⟨rfl, G7.rf⟩
  unfold mX10_otherCapacities
  rcases h9 with ⟨K, ⟨p1, g7⟩, e⟩ | ⟨r, e, y, K, rfl, hy, g7⟩
  · refine ⟨K, ?_, g7⟩
    rw [show mX10_otherCapacities_4 N 1 N 0 0 I = _ from e, lb_l]
    dsimp only
    rw [if_neg (by decide), p1]
    rfl
  · refine ⟨K, ?_, g7⟩
    rw [show mX10_otherCapacities_4 N 1 N 0 0 I = _ from e, lb_r, hy]
    rfl
/-! the reference -/
def GR (l : Nat) (I0 I : gI) : Prop := (∀ c, c ∉ [310, 313, 319, 320, 321, 322, 323, 324] → I c = I0 c) ∧ (∀ j, j ∉ [32, 33, 34, 35] → I 310 j = I0 310 j) ∧ ∀ j, j ≠ 5 * l + 3 → I 313 j = I0 313 j
theorem GR_net (hI : NetM ν I0) (h : GR l I0 I) {c : Nat} : NetM (capS ν l c) (upd2 I 313 (5 * l + 3) (nI c)) := by
  refine ⟨?_, ?_, ?_, fun l' hl' j hj => ?_, fun t ht j hj => ?_⟩
  · rw [u2_c (by decide), h.2.1 13 (by simp)]; exact hI.1
  · rw [u2_c (by decide), h.2.1 14 (by simp)]; exact hI.2.1
  · rw [u2_c (by decide), h.2.1 15 (by simp)]; exact hI.2.2.1
  · show upd2 I 313 (5 * l + 3) (nI c) 313 (5 * l' + j) = nI (if l' = l ∧ j = 3 then c else ν.L l' j)
    by_cases e : l' = l ∧ j = 3
    · rw [if_pos e, e.1, e.2, u2_at]
    · rw [if_neg e, u2_ne (by omega), h.2.2 _ (by omega)]
      exact hI.2.2.2.1 l' hl' j hj
  · rw [u2_c (by decide), h.1 315 (by simp)]
    exact hI.2.2.2.2 t ht j hj
theorem GR_fb (h : GR l I0 I) {v : Int32} {K : gI} (f : FB (upd2 I 313 (5 * l + 3) v) K) : GR l I0 K := by
  refine ⟨fun c hc => ?_, fun j hj => ?_, fun j hj => ?_⟩
  · rw [f.1 c (fun h' => hc (by simp at h' ⊢; omega)), u2_c (fun e => hc (by simp [e]))]; exact h.1 c hc
  · rw [f.2 j hj, u2_c (by decide)]; exact h.2.1 j hj
  · rw [f.1 313 (by simp), u2_ne (fun e => hj e.2)]; exact h.2.2 j hj
theorem or_bd {fo x : Option Nat} {B : Nat} (h1 : ∀ y, fo = some y → y ≤ B) (h2 : ∀ y, x = some y → y ≤ B) : ∀ y, fo.or x = some y → y ≤ B := fun y hy => by
  cases fo with
  | none => exact h2 y hy
  | some a => exact h1 y hy
set_option maxHeartbeats 1000000 in
theorem m_o75 (hn : WfN ν) (hI : NetM ν I0) (hs : MS ν 317 0 σ I0) (hw : WfW ν σ) (hN : 100000000000 ≤ N) (hv8 : vs.length ≤ 8) (hv : ∀ v ∈ vs, SnOk ν v) (hg : SgM vs I0) (hl : l < ν.ln) {k1 : Int32} : ∀ (m fu c : Nat) (v2 : Int32) (fo : Option Nat) (I : gI), c + m = 21 → 1 ≤ c → m < fu → GR l I0 I → (∀ y, fo = some y → y ≤ 2000) → ∃ I', mX11_other_75 N k1 (nI l) (nI (ν.L l 3)) (zI (tkL ν σ l)) fu v2 (eO fo) (nI c) I = some (v2 + nI (cfO (okc ν σ vs l) m), eO (fo.or ((ffO (okc ν σ vs l) m).map (fun c => 100 * l + c))), I') ∧ GR l I0 I' := by
  have hln := hn.2.2.1
  have hL := hn.2.2.2.2.1 l hl
  have hbp := pl_sml (x := 99) (p := 7) hn hw hl
  have htb : -1000 ≤ tkL ν σ l ∧ tkL ν σ l ≤ 1000 := by unfold tkL; omega
  intro m
  induction m with
  | zero =>
    intro fu c v2 fo I h1 h2 h3 hG hfo
    obtain ⟨n, rfl⟩ : ∃ n, fu = n + 1 := ⟨fu - 1, by omega⟩
    refine ⟨I, ?_, hG⟩
    rw [mX11_other_75, if_pos (show (20 : Int32) < nI c from nI_lt (a := 20) (by omega) (by omega)), cfO, ffO, nI_0', z_add]
    cases fo <;> rfl
  | succ m ih =>
    intro fu c v2 fo I h1 h2 h3 hG hfo
    obtain ⟨n, rfl⟩ : ∃ n, fu = n + 1 := ⟨fu - 1, by omega⟩
    have h20 : 20 - m = c := by omega
    have hn20 : ¬ (20 : Int32) < nI c := nI_nlt (a := 20) (by omega) (by omega)
    have skip : okc ν σ vs l c = false → mX11_other_75 N k1 (nI l) (nI (ν.L l 3)) (zI (tkL ν σ l)) (n + 1) v2 (eO fo) (nI c) I = mX11_other_75 N k1 (nI l) (nI (ν.L l 3)) (zI (tkL ν σ l)) n v2 (eO fo) (nI (c + 1)) I → ∃ I', mX11_other_75 N k1 (nI l) (nI (ν.L l 3)) (zI (tkL ν σ l)) (n + 1) v2 (eO fo) (nI c) I = some (v2 + nI (cfO (okc ν σ vs l) (m + 1)), eO (fo.or ((ffO (okc ν σ vs l) (m + 1)).map (fun c => 100 * l + c))), I') ∧ GR l I0 I' := by
      intro hno hd
      obtain ⟨I', e', g'⟩ := ih n (c + 1) v2 fo I (by omega) (by omega) (by omega) hG hfo
      refine ⟨I', ?_, g'⟩
      rw [hd, e', cfO, ffO, h20, hno]
      simp
    by_cases hcc : c = ν.L l 3
    · refine skip ?_ ?_
      · cases hx : okc ν σ vs l c with
        | false => rfl
        | true => exact absurd hcc (okc_iff.mp hx).1
      · rw [mX11_other_75, if_neg hn20, if_pos (by rw [hcc]), nI_1]
    · have hne : ¬ nI c = nI (ν.L l 3) := fun h => hcc ((nI_eq (by omega) (by omega)).mp h)
      by_cases htk : tkL ν σ l ≤ (c : Int)
      · have hle : zI (tkL ν σ l) ≤ nI c := by rw [← zI_nat, zI_le ⟨by omega, by omega⟩ ⟨by omega, by omega⟩]; exact htk
        obtain ⟨K, eK, fK⟩ := m_seen (N := N) (ν := capS ν l c) (σ := σ) (vs := vs) (I := upd2 I 313 (5 * l + 3) (nI c)) (capS_wf hn (by omega) (by omega)) (GR_net hI hG) (show MS ν 317 0 σ (upd2 I 313 (5 * l + 3) (nI c)) from hs.c (by rw [u2_c (by decide), hG.1 317 (by simp)])) hw hN hv8 hv ⟨by rw [u2_c (by decide), hG.2.1 45 (by simp)]; exact hg.1, fun j hj k hk => by rw [u2_c (by decide), hG.1 333 (by simp)]; exact hg.2 j hj k hk⟩
        have hGK := GR_fb hG fK
        have i3 : (5 : Int32) * nI l + 3 = nI (5 * l + 3) := n5 l 3
        have base : mX11_other_75 N k1 (nI l) (nI (ν.L l 3)) (zI (tkL ν σ l)) (n + 1) v2 (eO fo) (nI c) I = if (if allS (capS ν l c) σ vs = true then (1 : Int32) else 0) = 0 then (mX11_other_75 N k1 (nI l) (nI (ν.L l 3)) (zI (tkL ν σ l)) n v2 (eO fo) (nI (c + 1)) K) else (if eO fo = (-1) then (mX11_other_75 N k1 (nI l) (nI (ν.L l 3)) (zI (tkL ν σ l)) n (v2 + 1) (nI (100 * l + c)) (nI (c + 1)) K) else (mX11_other_75 N k1 (nI l) (nI (ν.L l 3)) (zI (tkL ν σ l)) n (v2 + 1) (eO fo) (nI (c + 1)) K)) := by
          rw [mX11_other_75, if_neg hn20, if_neg hne, if_pos hle, i3, ck_n (by omega) (by decide), nI_clamp (by omega), eK, ob_some]
          dsimp only
          rw [nI_1, show (100 : Int32) = nI 100 from rfl, nI_mul, nI_add]
        by_cases ha : allS (capS ν l c) σ vs = true
        · have hyes : okc ν σ vs l c = true := okc_iff.mpr ⟨hcc, htk, ha⟩
          rw [if_neg (by rw [if_pos ha]; decide)] at base
          cases fo with
          | none =>
            rw [if_pos (show eO none = -1 from rfl)] at base
            obtain ⟨I', e', g'⟩ := ih n (c + 1) (v2 + 1) (some (100 * l + c)) K (by omega) (by omega) (by omega) hGK (fun y hy => by cases hy; omega)
            refine ⟨I', ?_, g'⟩
            rw [base, show nI (100 * l + c) = eO (some (100 * l + c)) from rfl, e', cfO, ffO, h20, if_pos hyes, if_pos hyes, ← nI_add, ← Int32.add_assoc]
            rfl
          | some y =>
            have hy := hfo y rfl
            rw [if_neg (show ¬ eO (some y) = -1 from nI_m1 (by omega))] at base
            obtain ⟨I', e', g'⟩ := ih n (c + 1) (v2 + 1) (some y) K (by omega) (by omega) (by omega) hGK hfo
            refine ⟨I', ?_, g'⟩
            rw [base, e', cfO, ffO, h20, if_pos hyes, if_pos hyes, ← nI_add, ← Int32.add_assoc]
            rfl
        · rw [if_pos (by rw [if_neg ha])] at base
          have hno : okc ν σ vs l c = false := by
            cases hx : okc ν σ vs l c with
            | false => rfl
            | true => exact absurd (okc_iff.mp hx).2.2 ha
          obtain ⟨I', e', g'⟩ := ih n (c + 1) v2 fo K (by omega) (by omega) (by omega) hGK hfo
          refine ⟨I', ?_, g'⟩
          rw [base, e', cfO, ffO, h20, hno]
          simp
      · have hle : ¬ zI (tkL ν σ l) ≤ nI c := fun h => by rw [← zI_nat, zI_le ⟨by omega, by omega⟩ ⟨by omega, by omega⟩] at h; exact htk h
        refine skip ?_ ?_
        · cases hx : okc ν σ vs l c with
          | false => rfl
          | true => exact absurd (okc_iff.mp hx).2.1 htk
        · rw [mX11_other_75, if_neg hn20, if_neg hne, if_neg hle, nI_1]
theorem m_o41 (hn : WfN ν) (hI : NetM ν I0) (hs : MS ν 317 0 σ I0) (hw : WfW ν σ) (hN : 100000000000 ≤ N) (hv8 : vs.length ≤ 8) (hv : ∀ v ∈ vs, SnOk ν v) (hg : SgM vs I0) {k1 : Int32} : ∃ I', mX11_other_41 N k1 N 0 (-1) 0 I0 = some (nI (totO ν σ vs ν.ln), eO (fstO ν σ vs ν.ln), I') ∧ FB I0 I' := by
  have hln := hn.2.2.1
  obtain ⟨s', hP, e⟩ := loopP (F := fun n (s : Int32 × Int32 × gI) i => mX11_other_41 N k1 n s.1 s.2.1 i s.2.2) (b := ν.ln) (out := fun s => (s.1, s.2.1, s.2.2))
    (P := fun k s => s.1 = nI (totO ν σ vs k) ∧ s.2.1 = eO (fstO ν σ vs k) ∧ FB I0 s.2.2)
    (fun n s hP => by
      show mX11_other_41 N k1 (n + 1) s.1 s.2.1 (nI ν.ln) s.2.2 = some (s.1, s.2.1, s.2.2)
      rw [mX11_other_41, (hI.fb hP.2.2).2.1, if_pos (nI_le (Nat.le_refl _) (by omega))])
    (fun n k s hk hP => by
      obtain ⟨p1, p2, f⟩ := hP
      have hIs := hI.fb f
      have hss : MS ν 317 0 σ s.2.2 := hs.c (f.1 317 (by simp))
      have hgs : SgM vs s.2.2 := ⟨by rw [f.2 45 (by simp)]; exact hg.1, fun j hj k hk => by rw [f.1 333 (by simp)]; exact hg.2 j hj k hk⟩
      obtain ⟨I', e', g'⟩ := m_o75 (N := N) (I0 := s.2.2) (k1 := k1) hn hIs hss hw hN hv8 hv hgs hk 20 N 1 (nI (totO ν σ vs k)) (fstO ν σ vs k) s.2.2 (by omega) (by omega) (by omega) ⟨fun _ _ => rfl, fun _ _ => rfl, fun _ _ => rfl⟩ (fun y hy => by have := fst_le (show k ≤ 16 by omega) hy; omega)
      have i3 : (5 : Int32) * nI k + 3 = nI (5 * k + 3) := n5 k 3
      have ecap : s.2.2 313 (5 * k + 3) = nI (ν.L k 3) := hIs.2.2.2.1 k hk 3 (by decide)
      refine ⟨(nI (totO ν σ vs (k + 1)), eO (fstO ν σ vs (k + 1)), upd2 I' 313 (5 * k + 3) (nI (ν.L k 3))), ?_, rfl, rfl, ?_⟩
      · show mX11_other_41 N k1 (n + 1) s.1 s.2.1 (nI k) s.2.2 = mX11_other_41 N k1 n _ _ (nI (k + 1)) _
        rw [mX11_other_41, hIs.2.1, if_neg (nI_ge hk (by omega)), i3, ck_n (by omega) (by decide), nI_clamp (by omega), show mX11_takenAt N 0 (nI k) s.2.2 = some (zI (tkL ν σ k)) from m_taken (b := 0) hn hIs hss hw (by omega) (by omega) hk, ob_some, ecap, p1, p2, show mX11_other_75 N k1 (nI k) (nI (ν.L k 3)) (zI (tkL ν σ k)) N (nI (totO ν σ vs k)) (eO (fstO ν σ vs k)) 1 s.2.2 = _ from e', ob_some]
        dsimp only
        rw [ck_n (by omega) (by decide), nm_n, nI_1, nI_add, totO, fstO]
      · refine f.tr ⟨fun c hc => ?_, fun j hj => ?_⟩
        · show upd2 I' 313 (5 * k + 3) (nI (ν.L k 3)) c = s.2.2 c
          by_cases e3 : c = 313
          · subst e3
            funext j
            by_cases ej : j = 5 * k + 3
            · rw [ej, u2_at, ecap]
            · rw [u2_ne (fun h => ej h.2)]; exact g'.2.2 j ej
          · rw [u2_c e3]; exact g'.1 c (fun h => by simp at h hc; omega)
        · show upd2 I' 313 (5 * k + 3) (nI (ν.L k 3)) 310 j = s.2.2 310 j
          rw [u2_c (by decide)]; exact g'.2.1 j hj)
    N 0 (0, -1, I0) (Nat.zero_le _) (by omega) ⟨rfl, rfl, FB.rf⟩
  exact ⟨s'.2.2, by rw [show mX11_other_41 N k1 N 0 (-1) 0 I0 = _ from e, hP.1, hP.2.1], hP.2.2⟩
end Oth1
section OthS
variable {N : Nat}
set_option maxHeartbeats 1000000 in
theorem s_other (hN : 100000000000 ≤ N) : St_other N Inv := by
  intro c I J a1 hc hInv
  obtain ⟨⟨ν, σ, ks, vs, hP⟩, mv⟩ := id hInv
  obtain ⟨hn, g, c1, m1, c2, m2, ac, sg, im, tp, ct⟩ := id hP
  have htn := hn.2.2.2.1
  have hww := g.wf hn
  obtain ⟨sv8, svk, sc5, sm45, sall⟩ := id sg
  have s0 : ∀ {K : gI}, Sm K (upd2 K 310 0 0) := Sm.rf.u0
  have hgC : SgC vs I := ⟨sc5, fun j hj k hk => (sall j hj k hk).1⟩
  have hgM : SgM vs I := ⟨sm45, fun j hj k hk => (sall j hj k hk).2⟩
  rcases wi_ck (lo := 0) (hi := 2) (by omega) (by omega) a1 with ⟨p, -, hp, rfl, eW⟩ | ⟨hno, eW⟩
  · have hC1 : ¬ nI p < 0 := nI_pos (by omega)
    have hC2 : nI p ≤ 2 := nI_le (b := 2) hp (by omega)
    have baseM : ∀ (K : gI), mX11_other N (nI p) K = (if nI p = 2 then (Option.bind (mX11_isSeen N (upd2 K 310 0 0)) (fun (r33, I34) => if r33 = 0 then (some ((0 : Int32), I34)) else (some (1, I34)))) else (Option.bind (mX11_other_41 N (nI p) N 0 (-1) 0 (upd2 K 310 0 0)) (fun (y27, y28, I29) => if nI p = 0 then (some (y27, I29)) else (some (y28, I29))))) := by
      intro K
      unfold mX11_other mX11_isWhat
      rw [show mX11_within (nI p) 0 2 (upd2 K 310 0 0) = some 1 from eW _, ob_some, m_right1 u2_at, ob_some]
      dsimp only
      rw [zo_1, ob_some]
      dsimp only
      rw [if_neg (show ¬ (1 : Int32) = 0 by decide)]
    have rest : ∀ K : gI, G7 I K → NetM ν (upd2 K 310 0 0) ∧ MS ν 317 0 σ (upd2 K 310 0 0) ∧ SgM vs (upd2 K 310 0 0) := fun K h7 => ⟨(m1.fr h7.fr (by simp) (by simp) (by simp)).sm s0, (m2.c (h7.1 317 (by decide)) : MS ν 317 0 σ K).c (u2_c (by decide)), ⟨by rw [u2_ne (by omega), h7.1 310 (by decide)]; exact hgM.1, fun j hj k hk => by rw [u2_c (by decide), h7.1 333 (by decide)]; exact hgM.2 j hj k hk⟩⟩
    have hp' : p = 0 ∨ p = 1 ∨ p = 2 := by omega
    rcases hp' with rfl | rfl | rfl
    · obtain ⟨K, eK, g7⟩ := c_count0 (N := N) hn c1 c2 hww (by omega) sv8 svk hgC
      obtain ⟨r1, r2, r3⟩ := rest K g7
      obtain ⟨I2, e2, f2⟩ := m_o41 (N := N) (k1 := nI 0) hn r1 r2 hww hN sv8 svk r3
      refine ⟨.inl (nI (totO ν σ vs ν.ln)), K, nI (totO ν σ vs ν.ln), I2, ?_, (fun E h => by cases h), ?_, by rw [f2.2 0 (by simp), u2_at]; rfl, (fun v h => by cases h; rfl), hInv.sm4 ((Sm4.g7 g7).tr (Sm4.sm (s0.tr (Sm.fb f2))))⟩
      · unfold mX10_other
        rw [if_neg hC1, if_pos hC2, if_neg (show ¬ nI 0 = 2 by decide), if_neg (show ¬ nI 0 = 1 by decide), ob_some, eK, ob_some]
      · rw [baseM K, if_neg (show ¬ nI 0 = 2 by decide), e2, ob_some]
        dsimp only
        rw [if_pos (show nI 0 = 0 from rfl)]
    · obtain ⟨K, eK, g7⟩ := c_first1 (N := N) hn c1 c2 hww (by omega) sv8 svk hgC
      obtain ⟨r1, r2, r3⟩ := rest K g7
      obtain ⟨I2, e2, f2⟩ := m_o41 (N := N) (k1 := nI 1) hn r1 r2 hww hN sv8 svk r3
      refine ⟨.inl (eO (fstO ν σ vs ν.ln)), K, eO (fstO ν σ vs ν.ln), I2, ?_, (fun E h => by cases h), ?_, by rw [f2.2 0 (by simp), u2_at]; rfl, (fun v h => by cases h; rfl), hInv.sm4 ((Sm4.g7 g7).tr (Sm4.sm (s0.tr (Sm.fb f2))))⟩
      · unfold mX10_other
        rw [if_neg hC1, if_pos hC2, if_neg (show ¬ nI 1 = 2 by decide), if_pos (show nI 1 = 1 from rfl), ob_some, eK, ob_some]
      · rw [baseM K, if_neg (show ¬ nI 1 = 2 by decide), e2, ob_some]
        dsimp only
        rw [if_neg (show ¬ nI 1 = 0 by decide)]
    · have eC := c_so (N := N) hn c1 c2 hww (by omega) sv8 svk hgC
      obtain ⟨r1, r2, r3⟩ := rest I G7.rf
      obtain ⟨I2, e2, f2⟩ := m_seen (N := N) hn r1 r2 hww hN sv8 svk r3
      refine ⟨.inl (if allS ν σ vs = true then 1 else 0), I, if allS ν σ vs = true then 1 else 0, I2, ?_, (fun E h => by cases h), ?_, by rw [f2.2 0 (by simp), u2_at]; rfl, (fun v h => by cases h; rfl), hInv.sm (s0.tr (Sm.fb f2))⟩
      · unfold mX10_other
        rw [if_neg hC1, if_pos hC2, if_pos (show nI 2 = 2 from rfl), eC, ob_some]
        by_cases ha : allS ν σ vs = true
        · rw [if_pos ha, if_neg (show ¬ (1 : Int32) = 0 by decide)]
        · rw [if_neg ha, if_pos (show (0 : Int32) = 0 from rfl)]
      · rw [baseM I, if_pos (show nI 2 = 2 from rfl), e2, ob_some]
        dsimp only
        by_cases ha : allS ν σ vs = true
        · rw [if_pos ha, if_neg (show ¬ (1 : Int32) = 0 by decide)]
        · rw [if_neg ha, if_pos (show (0 : Int32) = 0 from rfl)]
  · refine ⟨.inr xnN, I, 0, upd2 (upd2 I 310 0 0) 310 0 1, ?_, (fun E h => by cases h; rfl), ?_, u2_at, (fun v h => by cases h), hInv.sm s0.u0⟩
    · unfold mX10_other
      rcases i_nn a1 with h | ⟨n, h1, rfl⟩
      · rw [if_pos h]
      · by_cases h2 : n ≤ 2
        · exact absurd rfl (hno n (by omega) h2)
        · rw [if_neg (nI_pos (by omega)), if_neg (show ¬ nI n ≤ 2 from nI_ge (a := 2) (by omega) (by omega))]
    · unfold mX11_other mX11_isWhat
      rw [show mX11_within a1 0 2 (upd2 I 310 0 0) = some 0 from eW _, ob_some, m_right0 u2_at (by decide), ob_some]
      dsimp only
      rw [zo_0, ob_some]
      dsimp only
      rw [if_pos rfl]
end OthS
