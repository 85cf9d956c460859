/-! the reference: the walk over all ways, and what it finds -/
def cand (ν : Nt) (go : Nat → Bool) (z : Nat) (f : Nat → List Nat → List (List Nat)) (at' : Nat) (vs : List Nat) (l : Nat) : List (List Nat) :=
  if go l = true ∧ ν.L l 0 = at' ∧ ν.L l 1 ∉ vs then (if ν.L l 1 = z then [[l]] else (f (ν.L l 1) (ν.L l 1 :: vs)).map (l :: ·)) else []
def EnS (ν : Nt) (go : Nat → Bool) (z : Nat) (f : Nat → List Nat → List (List Nat)) (at' : Nat) (vs : List Nat) : Nat → List (List Nat)
  | 0 => []
  | j + 1 => cand ν go z f at' vs (ν.ln - (j + 1)) ++ EnS ν go z f at' vs j
/-- all ways on from a node, m links at most, in the order of their links -/
def En (ν : Nt) (go : Nat → Bool) (z : Nat) : Nat → Nat → List Nat → List (List Nat)
  | 0, _, _ => []
  | m + 1, at', vs => EnS ν go z (En ν go z m) at' vs ν.ln
def Kf : Nat → Nat
  | 0 => 0
  | m + 1 => 16 * (3 + Kf m)
section Found
variable {ν : Nt} {go : Nat → Bool} {wd : Nat → Int} {I : gI} {N z h : Nat}
theorem n5 (l j : Nat) : (5 : Int32) * nI l + nI j = nI (5 * l + j) := by rw [show (5 : Int32) = nI 5 from rfl, nI_mul, nI_add]
theorem n5' (l : Nat) : (5 : Int32) * nI l = nI (5 * l) := by rw [show (5 : Int32) = nI 5 from rfl, nI_mul]
theorem n7 (l j : Nat) : (7 : Int32) * nI l + nI j = nI (7 * l + j) := by rw [show (7 : Int32) = nI 7 from rfl, nI_mul, nI_add]
theorem n7' (l : Nat) : (7 : Int32) * nI l = nI (7 * l) := by rw [show (7 : Int32) = nI 7 from rfl, nI_mul]
set_option maxHeartbeats 2000000 in
theorem dfs_step (hn : WfN ν) (hI : NetM ν I) (hg : GoM ν go wd I) {d l at' k : Nat} {had : Int32} (hz : z < 8) (hh : h ≤ 7) (hd : d < h) (ha : at' < 8) (ht : I 321 d + 1 = nI l) (hl : l < ν.ln) :
    mX11_isFound_28 N (nI z) (nI h) (k + 1) (nI d) had (nI at') I = if go l = true ∧ ν.L l 0 = at' ∧ bt had (ν.L l 1) = false then (if ν.L l 1 = z then Option.bind (mX11_laysBest N (nI (d + 1)) (upd2 I 321 d (nI l))) (fun I9 => mX11_isFound_28 N (nI z) (nI h) k (nI d) had (nI at') I9) else if d + 1 = h then mX11_isFound_28 N (nI z) (nI h) k (nI d) had (nI at') (upd2 I 321 d (nI l)) else mX11_isFound_28 N (nI z) (nI h) k (nI (d + 1)) (had ||| ((1 : Int32) <<< (nI (ν.L l 1) &&& 31))) (nI (ν.L l 1)) (upd2 (upd2 I 321 d (nI l)) 321 (d + 1) (-1))) else mX11_isFound_28 N (nI z) (nI h) k (nI d) had (nI at') (upd2 I 321 d (nI l)) := by
  have hln := hn.2.2.1
  have hnn := hn.2.1
  have hL := hn.2.2.2.2.1 l hl
  have e1 : (5 : Int32) * nI l + 1 = nI (5 * l + 1) := n5 l 1
  have e0 := n5' l
  have q1 : I 313 (5 * l + 1) = nI (ν.L l 1) := hI.2.2.2.1 l hl 1 (by decide)
  have q0 : I 313 (5 * l) = nI (ν.L l 0) := hI.2.2.2.1 l hl 0 (by decide)
  have r310 : upd2 I 321 d (nI l) 310 = I 310 := u2_c (by decide)
  have r313 : upd2 I 321 d (nI l) 313 = I 313 := u2_c (by decide)
  have r319 : upd2 I 321 d (nI l) 319 = I 319 := u2_c (by decide)
  rw [mX11_isFound_28, if_neg (nI_pos (by omega)), ck_n (by omega) (by decide), nI_clamp (by omega), ht, nm_n, nm_n, u2_at, r310, hI.2.1, if_pos (nI_lt hl (by omega)), e1, ck_n (by omega) (by decide), nI_clamp (by omega), nm_n, r313, q1, ck_n (by omega) (by decide), nI_clamp (by omega), nm_n, r319, (hg l hl).1, e0, ck_n (by omega) (by decide), nI_clamp (by omega), nm_n, q0, nI_1]
  by_cases c1 : go l = true
  · rw [if_pos c1, if_neg (by decide)]
    by_cases c2 : ν.L l 0 = at'
    · rw [if_pos (by rw [c2])]
      cases c3 : bt had (ν.L l 1) with
      | true =>
        rw [if_pos ((mb1 (by omega) had).mpr c3)]
        exact (if_neg (fun h => by cases h.2.2)).symm
      | false =>
        rw [if_neg (fun h => by rw [(mb1 (by omega) had).mp h] at c3; cases c3)]
        refine Eq.trans ?_ (if_pos (show go l = true ∧ ν.L l 0 = at' ∧ false = false from ⟨c1, c2, rfl⟩)).symm
        by_cases c4 : ν.L l 1 = z
        · rw [if_pos (show nI (ν.L l 1) = nI z by rw [c4]), if_pos c4]
        · rw [if_neg (fun h => c4 ((nI_eq (by omega) (by omega)).mp h)), if_neg c4]
          by_cases c5 : d + 1 = h
          · rw [if_pos (by rw [c5]), if_pos c5]
          · rw [if_neg (fun h => c5 ((nI_eq (by omega) (by omega)).mp h)), if_neg c5, ck_n (by omega) (by decide), nI_clamp (by omega), nm_n]
    · rw [if_neg (fun h => c2 ((nI_eq (by omega) (by omega)).mp h)), if_neg (fun h => c2 h.2.1)]
  · rw [if_neg c1, if_pos rfl, if_neg (fun h => c1 h.1)]
theorem dfs_pop (hn : WfN ν) (hI : NetM ν I) {d l k : Nat} {had at9 : Int32} (hd : d + 1 < 8) (ht : I 321 (d + 1) + 1 = nI ν.ln) (hd0 : I 321 d = nI l) (hl : l < ν.ln) :
    mX11_isFound_28 N (nI z) (nI h) (k + 1) (nI (d + 1)) had at9 I = mX11_isFound_28 N (nI z) (nI h) k (nI d) (had &&& (((1 : Int32) <<< (nI (ν.L l 1) &&& 31)) ^^^ (-1))) (nI (ν.L l 0)) (upd2 I 321 (d + 1) (nI ν.ln)) := by
  have hln := hn.2.2.1
  have e1 : (5 : Int32) * nI l + 1 = nI (5 * l + 1) := n5 l 1
  have e0 := n5' l
  have q1 : I 313 (5 * l + 1) = nI (ν.L l 1) := hI.2.2.2.1 l hl 1 (by decide)
  have q0 : I 313 (5 * l) = nI (ν.L l 0) := hI.2.2.2.1 l hl 0 (by decide)
  rw [mX11_isFound_28, if_neg (nI_pos (by omega)), ck_n (by omega) (by decide), nI_clamp (by omega), ht, nm_n, nm_n, u2_at, u2_c (by decide), hI.2.1, if_neg (nI_nlt (Nat.le_refl _) (by omega)), nI_dec, if_pos (nI_pos' (by omega)), ck_n (by omega) (by decide), nI_clamp (by omega), nm_n, u2_ne (by omega), hd0, e1, ck_n (by omega) (by decide), nI_clamp (by omega), nm_n, nm_n, e0, ck_n (by omega) (by decide), nI_clamp (by omega), nm_n, u2_c (by decide), q1, q0]
theorem dfs_end (hn : WfN ν) (hI : NetM ν I) {k : Nat} {had at9 : Int32} (ht : I 321 0 + 1 = nI ν.ln) : mX11_isFound_28 N (nI z) (nI h) (k + 1 + 1) (nI 0) had at9 I = some (upd2 I 321 0 (nI ν.ln)) := by
  have hln := hn.2.2.1
  have em : nI 0 + (-1) = -1 := by decide
  have hm : ¬ (0 : Int32) ≤ -1 := by decide
  have hm2 : (-1 : Int32) < 0 := by decide
  rw [mX11_isFound_28, if_neg (nI_pos (by omega)), ck_n (by omega) (by decide), nI_clamp (by omega), ht, nm_n, nm_n, u2_at, u2_c (by decide), hI.2.1, if_neg (nI_nlt (Nat.le_refl _) (by omega)), em, if_neg hm, mX11_isFound_28, if_pos hm2]
theorem chn_snoc {a m : Nat} {p : List Nat} {l : Nat} (h1 : chn ν a p m) (hl : l < ν.ln) (h2 : ν.L l 0 = m) : chn ν a (p ++ [l]) (ν.L l 1) := chn_app.mpr ⟨m, h1, hl, h2, rfl⟩
theorem vis_snoc (a : Nat) (p : List Nat) (l : Nat) : vis ν a (p ++ [l]) = vis ν a p ++ [ν.L l 1] := by simp [vis]
/-- what stands in the walk at a depth -/
def DI (ν : Nt) (go : Nat → Bool) (a z : Nat) (pre vs : List Nat) (at' : Nat) (had : Int32) (I : gI) : Prop :=
  chn ν a pre at' ∧ (vis ν a pre).Nodup ∧ (∀ l ∈ pre, go l = true) ∧ (∀ i, i ∈ vs ↔ i ∈ vis ν a pre) ∧ (∀ i, i < 32 → bt had i = decide (i ∈ vs)) ∧ (∀ k, (hk : k < pre.length) → I 321 k = nI pre[k])
set_option maxHeartbeats 4000000 in
theorem m_dfs (hn : WfN ν) {a : Nat} (ha : a < ν.nn) (hz : z < 8) (hh : h ≤ 7) (hwd : ∀ l, -1000 ≤ wd l ∧ wd l ≤ 1000) (hN : 100 ≤ N) :
    ∀ (m j : Nat) (pre vs : List Nat) (at' : Nat) (had : Int32) (I : gI) (acc : List (List Nat)), pre.length + (m + 1) = h → j ≤ ν.ln → I 321 pre.length + 1 = nI (ν.ln - j) → DI ν go a z pre vs at' had I → NetM ν I → GoM ν go wd I → Rec ν wd acc I → (∀ q ∈ acc, q.length ≤ 7 ∧ (∀ l ∈ q, l < ν.ln)) →
      ∃ c I', c ≤ j * (3 + Kf m) ∧ (∀ n, mX11_isFound_28 N (nI z) (nI h) (n + c) (nI pre.length) had (nI at') I = mX11_isFound_28 N (nI z) (nI h) n (nI pre.length) had (nI at') I') ∧ FM I I' ∧ (∀ k, k < pre.length → I' 321 k = I 321 k) ∧ I' 321 pre.length + 1 = nI ν.ln ∧ Rec ν wd (acc ++ (EnS ν go z (En ν go z m) at' vs j).map (pre ++ ·)) I' ∧ (∀ q ∈ acc ++ (EnS ν go z (En ν go z m) at' vs j).map (pre ++ ·), q.length ≤ 7 ∧ (∀ l ∈ q, l < ν.ln)) := by
  have hln := hn.2.2.1
  have hnn := hn.2.1
  intro m
  induction m with
  | zero =>
    intro j
    induction j with
    | zero =>
      intro pre vs at' had I acc _ _ ht _ _ _ hR hacc
      refine ⟨0, I, by omega, fun _ => rfl, FM.rf, fun _ _ => rfl, ht, ?_, ?_⟩
      · simpa [EnS] using hR
      · simpa [EnS] using hacc
    | succ j ih =>
      intro pre vs at' had I acc hpl hj ht hD hI hg hR hacc
      obtain ⟨d1, d2, d3, d4, d5, d6⟩ := hD
      have hl : ν.ln - (j + 1) < ν.ln := by omega
      obtain ⟨l, hle⟩ : ∃ l, l = ν.ln - (j + 1) := ⟨_, rfl⟩
      rw [← hle] at ht hl
      have hL := hn.2.2.2.2.1 l hl
      have hat : at' < 8 := by have := vis_lt hn ha d1 at' (chn_last d1); omega
      have t1 : upd2 I 321 pre.length (nI l) 321 pre.length + 1 = nI (ν.ln - j) := by rw [u2_at, nI_1]; congr 1; omega
      have f1 : FM I (upd2 I 321 pre.length (nI l)) := FM.rf.u (by simp)
      have d6' : ∀ k, (hk : k < pre.length) → upd2 I 321 pre.length (nI l) 321 k = nI pre[k] := fun k hk => by rw [u2_ne (by omega)]; exact d6 k hk
      have hR1 : Rec ν wd acc (upd2 I 321 pre.length (nI l)) := by
        refine ⟨by rw [u2_c (by decide)]; exact hR.1, fun i hi h2 => by rw [u2_c (by decide), u2_c (by decide)]; exact hR.2.1 i hi h2, ?_⟩
        have h3 := hR.2.2
        cases hb : bl ν wd acc with
        | none => rw [hb] at h3; show upd2 I 321 pre.length (nI l) 310 32 = -1; rw [u2_c (by decide)]; exact h3
        | some q => rw [hb] at h3; refine ⟨by rw [u2_c (by decide)]; exact h3.1, by rw [u2_c (by decide)]; exact h3.2.1, by rw [u2_c (by decide)]; exact h3.2.2.1, by rw [u2_c (by decide)]; exact h3.2.2.2⟩
      have step := fun k => dfs_step (N := N) (k := k) (had := had) hn hI hg hz hh (show pre.length < h by omega) hat ht hl
      by_cases hc : go l = true ∧ ν.L l 0 = at' ∧ bt had (ν.L l 1) = false
      · have hnv : ν.L l 1 ∉ vs := by have := hc.2.2; rw [d5 _ (by omega)] at this; simpa using this
        have hnv' : ν.L l 1 ∉ vis ν a pre := fun h => hnv ((d4 _).mpr h)
        have hpc := chn_snoc d1 hl hc.2.1
        have hpd : (vis ν a (pre ++ [l])).Nodup := by
          rw [vis_snoc]
          exact List.nodup_append.mpr ⟨d2, by simp, fun x hx y hy => by simp at hy; subst hy; exact fun e => hnv' (e ▸ hx)⟩
        by_cases hz1 : ν.L l 1 = z
        · obtain ⟨I2, e2, f2, g2, R2⟩ := m_lays (p := pre ++ [l]) hn (hI.fm f1) (hg.fm f1) hwd hN hR1 hacc (by simp) (way_nodup hpc hpd) (chn_lt hpc) (by simp; omega) (fun k hk => by
            by_cases hk2 : k < pre.length
            · rw [List.getElem_append_left hk2]; exact d6' k hk2
            · have : k = pre.length := by simp at hk; omega
              subst this
              rw [u2_at]; simp)
          obtain ⟨c, I3, hc3, e3, f3, k3, t3, R3, A3⟩ := ih pre vs at' had I2 (acc ++ [pre ++ [l]]) hpl (by omega) (by rw [g2]; exact t1) ⟨d1, d2, d3, d4, d5, fun k hk => by rw [g2]; exact d6' k hk⟩ ((hI.fm f1).fm f2) ((hg.fm f1).fm f2) R2 (fun q hq => by
            rcases List.mem_append.mp hq with hq | hq
            · exact hacc q hq
            · simp at hq; subst hq; exact ⟨by simp; omega, chn_lt hpc⟩)
          have hE : EnS ν go z (En ν go z 0) at' vs (j + 1) = [l] :: EnS ν go z (En ν go z 0) at' vs j := by
            rw [EnS, ← hle, cand, if_pos ⟨hc.1, hc.2.1, hnv⟩, if_pos hz1]; rfl
          refine ⟨c + 1, I3, by rw [Nat.succ_mul]; show c + 1 ≤ j * (3 + Kf 0) + (3 + 0); omega, fun n => ?_, (f1.tr f2).tr f3, fun k hk => by rw [k3 k hk, g2, u2_ne (by omega)], t3, ?_, ?_⟩
          · rw [show n + (c + 1) = n + c + 1 by omega, step, if_pos hc, if_pos hz1]
            rw [show pre.length + 1 = (pre ++ [l]).length by simp, e2, ob_some]
            exact e3 n
          · rw [hE, List.map_cons, List.append_cons]
            exact R3
          · rw [hE, List.map_cons, List.append_cons]
            exact A3
        · -- no link more
          obtain ⟨c, I3, hc3, e3, f3, k3, t3, R3, A3⟩ := ih pre vs at' had (upd2 I 321 pre.length (nI l)) acc hpl (by omega) t1 ⟨d1, d2, d3, d4, d5, d6'⟩ (hI.fm f1) (hg.fm f1) hR1 hacc
          have hE : EnS ν go z (En ν go z 0) at' vs (j + 1) = EnS ν go z (En ν go z 0) at' vs j := by
            rw [EnS, ← hle, cand, if_pos ⟨hc.1, hc.2.1, hnv⟩, if_neg hz1]; rfl
          refine ⟨c + 1, I3, by rw [Nat.succ_mul]; show c + 1 ≤ j * (3 + Kf 0) + (3 + 0); omega, fun n => ?_, f1.tr f3, fun k hk => by rw [k3 k hk, u2_ne (by omega)], t3, by rw [hE]; exact R3, by rw [hE]; exact A3⟩
          rw [show n + (c + 1) = n + c + 1 by omega, step, if_pos hc, if_neg hz1, if_pos (by omega)]
          exact e3 n
      · obtain ⟨c, I3, hc3, e3, f3, k3, t3, R3, A3⟩ := ih pre vs at' had (upd2 I 321 pre.length (nI l)) acc hpl (by omega) t1 ⟨d1, d2, d3, d4, d5, d6'⟩ (hI.fm f1) (hg.fm f1) hR1 hacc
        have hE : EnS ν go z (En ν go z 0) at' vs (j + 1) = EnS ν go z (En ν go z 0) at' vs j := by
          rw [EnS, ← hle, cand, if_neg (fun h => hc ⟨h.1, h.2.1, by rw [d5 _ (by omega)]; simpa using h.2.2⟩)]; rfl
        refine ⟨c + 1, I3, by rw [Nat.succ_mul]; show c + 1 ≤ j * (3 + Kf 0) + (3 + 0); omega, fun n => ?_, f1.tr f3, fun k hk => by rw [k3 k hk, u2_ne (by omega)], t3, by rw [hE]; exact R3, by rw [hE]; exact A3⟩
        rw [show n + (c + 1) = n + c + 1 by omega, step, if_neg hc]
        exact e3 n
  | succ m ihm =>
    intro j
    induction j with
    | zero =>
      intro pre vs at' had I acc _ _ ht _ _ _ hR hacc
      refine ⟨0, I, by omega, fun _ => rfl, FM.rf, fun _ _ => rfl, ht, ?_, ?_⟩
      · simpa [EnS] using hR
      · simpa [EnS] using hacc
    | succ j ih =>
      intro pre vs at' had I acc hpl hj ht hD hI hg hR hacc
      obtain ⟨d1, d2, d3, d4, d5, d6⟩ := hD
      have hl : ν.ln - (j + 1) < ν.ln := by omega
      obtain ⟨l, hle⟩ : ∃ l, l = ν.ln - (j + 1) := ⟨_, rfl⟩
      rw [← hle] at ht hl
      have hL := hn.2.2.2.2.1 l hl
      have hat : at' < 8 := by have := vis_lt hn ha d1 at' (chn_last d1); omega
      have hK : (j + 1) * (3 + Kf (m + 1)) = j * (3 + Kf (m + 1)) + (3 + Kf (m + 1)) := Nat.succ_mul _ _
      have t1 : upd2 I 321 pre.length (nI l) 321 pre.length + 1 = nI (ν.ln - j) := by rw [u2_at, nI_1]; congr 1; omega
      have f1 : FM I (upd2 I 321 pre.length (nI l)) := FM.rf.u (by simp)
      have d6' : ∀ k, (hk : k < pre.length) → upd2 I 321 pre.length (nI l) 321 k = nI pre[k] := fun k hk => by rw [u2_ne (by omega)]; exact d6 k hk
      have hRu : ∀ {J : gI} {i : Nat} {v : Int32}, Rec ν wd acc J → Rec ν wd acc (upd2 J 321 i v) := by
        intro J i v hR
        refine ⟨by rw [u2_c (by decide)]; exact hR.1, fun i hi h2 => by rw [u2_c (by decide), u2_c (by decide)]; exact hR.2.1 i hi h2, ?_⟩
        have h3 := hR.2.2
        cases hb : bl ν wd acc with
        | none => rw [hb] at h3; show upd2 J 321 i v 310 32 = -1; rw [u2_c (by decide)]; exact h3
        | some q => rw [hb] at h3; refine ⟨by rw [u2_c (by decide)]; exact h3.1, by rw [u2_c (by decide)]; exact h3.2.1, by rw [u2_c (by decide)]; exact h3.2.2.1, by rw [u2_c (by decide)]; exact h3.2.2.2⟩
      have hR1 : Rec ν wd acc (upd2 I 321 pre.length (nI l)) := hRu hR
      have step := fun k => dfs_step (N := N) (k := k) (had := had) hn hI hg hz hh (show pre.length < h by omega) hat ht hl
      by_cases hc : go l = true ∧ ν.L l 0 = at' ∧ bt had (ν.L l 1) = false
      · have hnv : ν.L l 1 ∉ vs := by have := hc.2.2; rw [d5 _ (by omega)] at this; simpa using this
        have hnv' : ν.L l 1 ∉ vis ν a pre := fun h => hnv ((d4 _).mpr h)
        have hpc := chn_snoc d1 hl hc.2.1
        have hpd : (vis ν a (pre ++ [l])).Nodup := by
          rw [vis_snoc]
          exact List.nodup_append.mpr ⟨d2, by simp, fun x hx y hy => by simp at hy; subst hy; exact fun e => hnv' (e ▸ hx)⟩
        by_cases hz1 : ν.L l 1 = z
        · obtain ⟨I2, e2, f2, g2, R2⟩ := m_lays (p := pre ++ [l]) hn (hI.fm f1) (hg.fm f1) hwd hN hR1 hacc (by simp) (way_nodup hpc hpd) (chn_lt hpc) (by simp; omega) (fun k hk => by
            by_cases hk2 : k < pre.length
            · rw [List.getElem_append_left hk2]; exact d6' k hk2
            · have : k = pre.length := by simp at hk; omega
              subst this
              rw [u2_at]; simp)
          obtain ⟨c, I3, hc3, e3, f3, k3, t3, R3, A3⟩ := ih pre vs at' had I2 (acc ++ [pre ++ [l]]) hpl (by omega) (by rw [g2]; exact t1) ⟨d1, d2, d3, d4, d5, fun k hk => by rw [g2]; exact d6' k hk⟩ ((hI.fm f1).fm f2) ((hg.fm f1).fm f2) R2 (fun q hq => by
            rcases List.mem_append.mp hq with hq | hq
            · exact hacc q hq
            · simp at hq; subst hq; exact ⟨by simp; omega, chn_lt hpc⟩)
          have hE : EnS ν go z (En ν go z (m + 1)) at' vs (j + 1) = [l] :: EnS ν go z (En ν go z (m + 1)) at' vs j := by
            rw [EnS, ← hle, cand, if_pos ⟨hc.1, hc.2.1, hnv⟩, if_pos hz1]; rfl
          refine ⟨c + 1, I3, by omega, fun n => ?_, (f1.tr f2).tr f3, fun k hk => by rw [k3 k hk, g2, u2_ne (by omega)], t3, ?_, ?_⟩
          · rw [show n + (c + 1) = n + c + 1 by omega, step, if_pos hc, if_pos hz1]
            rw [show pre.length + 1 = (pre ++ [l]).length by simp, e2, ob_some]
            exact e3 n
          · rw [hE, List.map_cons, List.append_cons]
            exact R3
          · rw [hE, List.map_cons, List.append_cons]
            exact A3
        · -- down
          have hpre1 : (pre ++ [l]).length = pre.length + 1 := by simp
          obtain ⟨c2, I4, hc2, e4, f4, k4, t4, R4, A4⟩ := ihm ν.ln (pre ++ [l]) (ν.L l 1 :: vs) (ν.L l 1) (had ||| ((1 : Int32) <<< (nI (ν.L l 1) &&& 31))) (upd2 (upd2 I 321 pre.length (nI l)) 321 (pre.length + 1) (-1)) acc (by rw [hpre1]; omega) (Nat.le_refl _) (by rw [hpre1, u2_at, Nat.sub_self]; decide)
            ⟨hpc, hpd, fun x hx => by
              rcases List.mem_append.mp hx with hx | hx
              · exact d3 x hx
              · simp at hx; subst hx; exact hc.1, fun i => by
              rw [vis_snoc, List.mem_cons, List.mem_append, d4 i]
              simp only [List.mem_singleton]
              exact Or.comm, fun i hi => by
              rw [b_or, d5 i hi, b_sh1 (by omega) hi]
              by_cases q1 : i = ν.L l 1 <;> by_cases q2 : i ∈ vs <;> simp [q1, q2], fun k hk => by
              by_cases hk2 : k < pre.length
              · rw [List.getElem_append_left hk2, u2_ne (by omega)]; exact d6' k hk2
              · have : k = pre.length := by simp at hk; omega
                subst this
                rw [u2_ne (by omega), u2_at]; simp⟩ ((hI.fm f1).fm (FM.rf.u (by simp))) ((hg.fm f1).fm (FM.rf.u (by simp))) (hRu hR1) hacc
          rw [hpre1] at e4 k4 t4
          have hI4 : NetM ν I4 := ((hI.fm f1).fm (FM.rf.u (by simp))).fm f4
          have hg4 : GoM ν go wd I4 := ((hg.fm f1).fm (FM.rf.u (by simp))).fm f4
          have k4l : I4 321 pre.length = nI l := by rw [k4 _ (by omega), u2_ne (by omega), u2_at]
          have hback : (had ||| ((1 : Int32) <<< (nI (ν.L l 1) &&& 31))) &&& (((1 : Int32) <<< (nI (ν.L l 1) &&& 31)) ^^^ (-1)) = had := b_ext fun i hi => by
            rw [b_not hi, b_or, b_sh1 (by omega) hi]
            by_cases q1 : i = ν.L l 1
            · subst q1; rw [hc.2.2]; simp
            · simp [q1]
          have pop := fun k => dfs_pop (N := N) (z := z) (h := h) (k := k) (had := had ||| ((1 : Int32) <<< (nI (ν.L l 1) &&& 31))) (at9 := nI (ν.L l 1)) hn hI4 (show pre.length + 1 < 8 by omega) t4 k4l hl
          have f5 : FM I (upd2 I4 321 (pre.length + 1) (nI ν.ln)) := (((f1.tr (FM.rf.u (by simp))).tr f4)).u (by simp)
          have hRu4 : Rec ν wd (acc ++ (En ν go z (m + 1) (ν.L l 1) (ν.L l 1 :: vs)).map ((pre ++ [l]) ++ ·)) (upd2 I4 321 (pre.length + 1) (nI ν.ln)) := by
            have R4' : Rec ν wd (acc ++ (En ν go z (m + 1) (ν.L l 1) (ν.L l 1 :: vs)).map ((pre ++ [l]) ++ ·)) I4 := R4
            refine ⟨by rw [u2_c (by decide)]; exact R4'.1, fun i hi h2 => by rw [u2_c (by decide), u2_c (by decide)]; exact R4'.2.1 i hi h2, ?_⟩
            have h3 := R4'.2.2
            cases hb : bl ν wd (acc ++ (En ν go z (m + 1) (ν.L l 1) (ν.L l 1 :: vs)).map ((pre ++ [l]) ++ ·)) with
            | none => rw [hb] at h3; show upd2 I4 321 _ _ 310 32 = -1; rw [u2_c (by decide)]; exact h3
            | some q => rw [hb] at h3; refine ⟨by rw [u2_c (by decide)]; exact h3.1, by rw [u2_c (by decide)]; exact h3.2.1, by rw [u2_c (by decide)]; exact h3.2.2.1, by rw [u2_c (by decide)]; exact h3.2.2.2⟩
          obtain ⟨c, I3, hc3, e3, f3, k3, t3, R3, A3⟩ := ih pre vs at' had (upd2 I4 321 (pre.length + 1) (nI ν.ln)) (acc ++ (En ν go z (m + 1) (ν.L l 1) (ν.L l 1 :: vs)).map ((pre ++ [l]) ++ ·)) hpl (by omega) (by rw [u2_ne (by omega), k4l, nI_1]; congr 1; omega) ⟨d1, d2, d3, d4, d5, fun k hk => by rw [u2_ne (by omega), k4 k (by omega), u2_ne (by omega)]; exact d6' k hk⟩ (hI.fm f5) (hg.fm f5) hRu4 A4
          have hE : EnS ν go z (En ν go z (m + 1)) at' vs (j + 1) = (En ν go z (m + 1) (ν.L l 1) (ν.L l 1 :: vs)).map (l :: ·) ++ EnS ν go z (En ν go z (m + 1)) at' vs j := by
            rw [EnS, ← hle, cand, if_pos ⟨hc.1, hc.2.1, hnv⟩, if_neg hz1]
          have hmm : ((En ν go z (m + 1) (ν.L l 1) (ν.L l 1 :: vs)).map (l :: ·)).map (pre ++ ·) = (En ν go z (m + 1) (ν.L l 1) (ν.L l 1 :: vs)).map ((pre ++ [l]) ++ ·) := by
            rw [List.map_map]
            apply List.map_congr_left
            intro q _
            simp
          refine ⟨c + 1 + (c2 + 1), I3, ?_, fun n => ?_, f5.tr f3, fun k hk => by rw [k3 k hk, u2_ne (by omega), k4 k (by omega), u2_ne (by omega), u2_ne (by omega)], t3, ?_, ?_⟩
          · have h1 : ν.ln * (3 + Kf m) ≤ 16 * (3 + Kf m) := Nat.mul_le_mul_right _ hln
            have h2 : Kf (m + 1) = 16 * (3 + Kf m) := rfl
            omega
          · rw [show n + (c + 1 + (c2 + 1)) = (n + c + 1) + c2 + 1 by omega, step, if_pos hc, if_neg hz1, if_neg (by omega), e4, pop, hback, hc.2.1]
            exact e3 n
          · rw [hE, List.map_append, hmm, ← List.append_assoc]
            exact R3
          · rw [hE, List.map_append, hmm, ← List.append_assoc]
            exact A3
      · obtain ⟨c, I3, hc3, e3, f3, k3, t3, R3, A3⟩ := ih pre vs at' had (upd2 I 321 pre.length (nI l)) acc hpl (by omega) t1 ⟨d1, d2, d3, d4, d5, d6'⟩ (hI.fm f1) (hg.fm f1) hR1 hacc
        have hE : EnS ν go z (En ν go z (m + 1)) at' vs (j + 1) = EnS ν go z (En ν go z (m + 1)) at' vs j := by
          rw [EnS, ← hle, cand, if_neg (fun h => hc ⟨h.1, h.2.1, by rw [d5 _ (by omega)]; simpa using h.2.2⟩)]; rfl
        refine ⟨c + 1, I3, by omega, fun n => ?_, f1.tr f3, fun k hk => by rw [k3 k hk, u2_ne (by omega)], t3, by rw [hE]; exact R3, by rw [hE]; exact A3⟩
        rw [show n + (c + 1) = n + c + 1 by omega, step, if_neg hc]
        exact e3 n
end Found
