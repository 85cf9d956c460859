/-! all ways, in order: what the reference finds is the best one -/
def SPt (ν : Nt) (go : Nat → Bool) (z m at' : Nat) (vs p : List Nat) : Prop := p ≠ [] ∧ chn ν at' p z ∧ (∀ l ∈ p, go l = true) ∧ p.length ≤ m ∧ (p.map (fun l => ν.L l 1)).Nodup ∧ ∀ x ∈ p.map (fun l => ν.L l 1), x ∉ vs
section All
variable {ν : Nt} {go : Nat → Bool} {wd : Nat → Int} {I : gI} {N z h : Nat}
theorem mem_EnS {f : Nat → List Nat → List (List Nat)} {at' : Nat} {vs p : List Nat} : ∀ {j : Nat}, j ≤ ν.ln → (p ∈ EnS ν go z f at' vs j ↔ ∃ l, ν.ln - j ≤ l ∧ l < ν.ln ∧ p ∈ cand ν go z f at' vs l)
  | 0, _ => by
    rw [EnS]
    refine ⟨fun h => (by cases h), fun ⟨l, h1, h2, _⟩ => by omega⟩
  | j + 1, hj => by
    rw [EnS, List.mem_append, mem_EnS (j := j) (by omega)]
    constructor
    · rintro (h | ⟨l, h1, h2, h3⟩)
      · exact ⟨ν.ln - (j + 1), Nat.le_refl _, by omega, h⟩
      · exact ⟨l, by omega, h2, h3⟩
    · rintro ⟨l, h1, h2, h3⟩
      by_cases e : l = ν.ln - (j + 1)
      · subst e; exact Or.inl h3
      · exact Or.inr ⟨l, by omega, h2, h3⟩
theorem chn_lastm {z : Nat} : ∀ {p : List Nat} {a : Nat}, p ≠ [] → chn ν a p z → z ∈ p.map (fun l => ν.L l 1)
  | [l], a, _, h => by have : ν.L l 1 = z := h.2.2
                       simp [this]
  | l :: m :: p, a, _, h => by
    have := chn_lastm (p := m :: p) (by simp) h.2.2
    rw [List.map_cons]
    exact List.mem_cons_of_mem _ this
theorem mem_En : ∀ (m at' : Nat) (vs p : List Nat), p ∈ En ν go z m at' vs ↔ SPt ν go z m at' vs p
  | 0, at', vs, p => by
    rw [En]
    refine ⟨fun h => (by cases h), fun ⟨h1, _, _, h2, _⟩ => ?_⟩
    exact absurd (List.length_eq_zero_iff.mp (by omega)) h1
  | m + 1, at', vs, p => by
    rw [En, mem_EnS (Nat.le_refl _)]
    constructor
    · rintro ⟨l, -, hl, hp⟩
      unfold cand at hp
      split at hp
      · next hc =>
        split at hp
        · next hz =>
          simp at hp
          subst hp
          exact ⟨by simp, ⟨hl, hc.2.1, hz⟩, fun x hx => by simp at hx; subst hx; exact hc.1, by simp, by simp, fun x hx => by simp at hx; subst hx; exact hc.2.2⟩
        · next hz =>
          obtain ⟨q, hq, rfl⟩ := List.mem_map.mp hp
          obtain ⟨q1, q2, q3, q4, q5, q6⟩ := (mem_En m _ _ _).mp hq
          refine ⟨by simp, ⟨hl, hc.2.1, q2⟩, fun x hx => ?_, by simp; omega, ?_, fun x hx => ?_⟩
          · rcases List.mem_cons.mp hx with rfl | hx
            · exact hc.1
            · exact q3 x hx
          · rw [List.map_cons]
            exact List.nodup_cons.mpr ⟨fun h => q6 _ h List.mem_cons_self, q5⟩
          · rw [List.map_cons] at hx
            rcases List.mem_cons.mp hx with rfl | hx
            · exact hc.2.2
            · exact fun h => q6 x hx (List.mem_cons_of_mem _ h)
      · cases hp
    · rintro ⟨h1, h2, h3, h4, h5, h6⟩
      cases p with
      | nil => exact absurd rfl h1
      | cons l q =>
        rw [List.map_cons] at h5 h6
        obtain ⟨n1, n2⟩ := List.nodup_cons.mp h5
        refine ⟨l, by omega, h2.1, ?_⟩
        unfold cand
        rw [if_pos ⟨h3 l List.mem_cons_self, h2.2.1, h6 _ List.mem_cons_self⟩]
        by_cases hz : ν.L l 1 = z
        · rw [if_pos hz]
          have : q = [] := by
            cases q with
            | nil => rfl
            | cons x q => exact absurd (chn_lastm (by simp) h2.2.2) (by rw [← hz]; exact n1)
          subst this
          simp
        · rw [if_neg hz]
          refine List.mem_map.mpr ⟨q, (mem_En m _ _ _).mpr ⟨fun e => hz (by subst e; exact h2.2.2), h2.2.2, fun x hx => h3 x (List.mem_cons_of_mem _ hx), by simp at h4; omega, n2, fun x hx hv => ?_⟩, rfl⟩
          rcases List.mem_cons.mp hv with rfl | hv
          · exact n1 hx
          · exact h6 x (List.mem_cons_of_mem _ hx) hv
theorem mem_all {a : Nat} (haz : a ≠ z) {p : List Nat} : p ∈ En ν go z h a [a] ↔ IsP ν go a z h p := by
  rw [mem_En]
  constructor
  · rintro ⟨h1, h2, h3, h4, h5, h6⟩
    exact ⟨h2, List.nodup_cons.mpr ⟨fun hx => h6 a hx (by simp), h5⟩, h4, h3⟩
  · rintro ⟨h1, h2, h3, h4⟩
    obtain ⟨n1, n2⟩ := List.nodup_cons.mp h2
    exact ⟨fun e => haz (by subst e; exact h1), h1, h4, h3, n2, fun x hx hv => by simp at hv; subst hv; exact n1 hx⟩
theorem lxl_rf : ∀ p, lxl p p
  | [] => trivial
  | _ :: p => Or.inr ⟨rfl, lxl_rf p⟩
theorem lxl_anti : ∀ {p q : List Nat}, p.length = q.length → lxl p q → lxl q p → p = q
  | [], [], _, _, _ => rfl
  | a :: p, b :: q, hl, h1, h2 => by
    have hl' : p.length = q.length := by simp at hl; exact hl
    rcases h1 with h1 | ⟨h1, h1'⟩
    · rcases h2 with h2 | ⟨h2, -⟩
      · omega
      · omega
    · rcases h2 with h2 | ⟨-, h2'⟩
      · omega
      · rw [h1, lxl_anti hl' h1' h2']
theorem cand_hd {f : Nat → List Nat → List (List Nat)} {at' l : Nat} {vs p : List Nat} (h : p ∈ cand ν go z f at' vs l) : ∃ q, p = l :: q := by
  unfold cand at h
  split at h
  · split at h
    · simp at h; exact ⟨[], h⟩
    · obtain ⟨q, -, rfl⟩ := List.mem_map.mp h; exact ⟨q, rfl⟩
  · cases h
theorem srt_EnS {f : Nat → List Nat → List (List Nat)} (hf : ∀ a v, (f a v).Pairwise lxl) {at' : Nat} {vs : List Nat} : ∀ {j : Nat}, j ≤ ν.ln → (EnS ν go z f at' vs j).Pairwise lxl
  | 0, _ => List.Pairwise.nil
  | j + 1, hj => by
    rw [EnS]
    refine List.pairwise_append.mpr ⟨?_, srt_EnS hf (j := j) (by omega), fun p hp q hq => ?_⟩
    · unfold cand
      split
      · split
        · simp
        · exact List.pairwise_map.mpr ((hf _ _).imp (fun h => Or.inr ⟨rfl, h⟩))
      · exact List.Pairwise.nil
    · obtain ⟨p', rfl⟩ := cand_hd hp
      obtain ⟨l, h1, h2, h3⟩ := (mem_EnS (by omega)).mp hq
      obtain ⟨q', rfl⟩ := cand_hd h3
      exact Or.inl (by omega)
theorem srt_En : ∀ (m at' : Nat) (vs : List Nat), (En ν go z m at' vs).Pairwise lxl
  | 0, _, _ => List.Pairwise.nil
  | m + 1, _, _ => by rw [En]; exact srt_EnS (srt_En m) (Nat.le_refl _)
/-- as good by all but the links' numbers -/
def eqk (ν : Nt) (wd : Nat → Int) (p q : List Nat) : Prop := mt ν p = mt ν q ∧ p.length = q.length ∧ mw wd q = mw wd p
theorem fold_best : ∀ (xs seen : List (List Nat)) (r : List Nat), r ∈ seen → (∀ q ∈ seen, btr ν wd r q ∨ (eqk ν wd r q ∧ lxl r q)) → (seen ++ xs).Pairwise lxl →
    xs.foldl (fun q x => if btrb ν wd x q = true then x else q) r ∈ seen ++ xs ∧ ∀ q ∈ seen ++ xs, btr ν wd (xs.foldl (fun q x => if btrb ν wd x q = true then x else q) r) q ∨ (eqk ν wd (xs.foldl (fun q x => if btrb ν wd x q = true then x else q) r) q ∧ lxl (xs.foldl (fun q x => if btrb ν wd x q = true then x else q) r) q)
  | [], seen, r, hr, h, _ => by
    rw [List.append_nil]
    exact ⟨hr, h⟩
  | x :: xs, seen, r, hr, h, hs => by
    rw [List.foldl_cons]
    have hs' : (seen ++ [x] ++ xs).Pairwise lxl := by rw [← List.append_cons]; exact hs
    have hx : ∀ q ∈ seen, lxl q x := by
      intro q hq
      have := (List.pairwise_append.mp hs).2.2 q hq x List.mem_cons_self
      exact this
    have := fold_best xs (seen ++ [x]) (if btrb ν wd x r = true then x else r) (by
      split
      · simp
      · exact List.mem_append_left _ hr) (fun q hq => by
      split
      · next hb =>
        have hb' := btrb_iff.mp hb
        rcases List.mem_append.mp hq with hq | hq
        · refine Or.inl ?_
          rcases h q hq with h1 | ⟨h1, -⟩
          · unfold btr at *
            omega
          · unfold btr eqk at *
            omega
        · simp at hq
          subst hq
          exact Or.inr ⟨⟨rfl, rfl, rfl⟩, lxl_rf _⟩
      · next hb =>
        have hb' : ¬ btr ν wd x r := fun h => hb (btrb_iff.mpr h)
        rcases List.mem_append.mp hq with hq | hq
        · exact h q hq
        · simp at hq
          subst hq
          by_cases he : eqk ν wd r q
          · exact Or.inr ⟨he, hx r hr⟩
          · refine Or.inl ?_
            unfold btr eqk at *
            omega) hs'
    rw [← List.append_cons] at this
    exact this
theorem bl_none {ps : List (List Nat)} : bl ν wd ps = none ↔ ps = [] := by
  cases ps with
  | nil => exact ⟨fun _ => rfl, fun _ => rfl⟩
  | cons x t => exact ⟨fun h => (by cases h), fun h => (by cases h)⟩
theorem bl_best {a : Nat} (haz : a ≠ z) {p : List Nat} (h9 : bl ν wd (En ν go z h a [a]) = some p) : isB ν go wd a z h p := by
  have hs := srt_En (ν := ν) (go := go) (z := z) h a [a]
  cases he : En ν go z h a [a] with
  | nil => rw [he] at h9; cases h9
  | cons x t =>
    rw [he] at h9 hs
    cases h9
    have := fold_best (ν := ν) (wd := wd) t [x] x (by simp) (fun q hq => by simp at hq; subst hq; exact Or.inr ⟨⟨rfl, rfl, rfl⟩, lxl_rf _⟩) hs
    refine ⟨(mem_all haz).mp (by rw [he]; exact this.1), fun q hq => ?_⟩
    have hq' := (mem_all haz).mpr hq
    rw [he] at hq'
    rcases this.2 q hq' with h1 | ⟨h1, h2⟩
    · rcases h1 with h1 | ⟨h1, h3 | ⟨h3, h4⟩⟩
      · exact Or.inl h1
      · exact Or.inr ⟨h1, Or.inl h3⟩
      · exact Or.inr ⟨h1, Or.inr ⟨h3, Or.inl h4⟩⟩
    · exact Or.inr ⟨h1.1, Or.inr ⟨h1.2.1, Or.inr ⟨h1.2.2, h2⟩⟩⟩
theorem isB_one {a : Nat} {p q : List Nat} (hp : isB ν go wd a z h p) (hq : isB ν go wd a z h q) : p = q := by
  have h1 := hp.2 q hq.1
  have h2 := hq.2 p hp.1
  rcases h1 with h1 | ⟨e1, h1 | ⟨e2, h1 | ⟨e3, l1⟩⟩⟩ <;> rcases h2 with h2 | ⟨f1, h2 | ⟨f2, h2 | ⟨f3, l2⟩⟩⟩
  all_goals first | (exfalso; omega) | exact lxl_anti e2 l1 l2
theorem mw_congr {wd' : Nat → Int} : ∀ {p : List Nat}, (∀ l ∈ p, wd l = wd' l) → mw wd p = mw wd' p
  | [], _ => rfl
  | l :: p, h9 => by rw [mw, mw, mw_congr (p := p) (fun x hx => h9 x (List.mem_cons_of_mem _ hx)), h9 l List.mem_cons_self]
theorem isB_wd {wd' : Nat → Int} {a : Nat} {p : List Nat} (hw : ∀ l, l < ν.ln → wd l = wd' l) (hp : isB ν go wd a z h p) : isB ν go wd' a z h p := by
  have e : ∀ q, IsP ν go a z h q → mw wd q = mw wd' q := fun q hq => mw_congr (fun l hl => hw l (chn_lt hq.1 l hl))
  refine ⟨hp.1, fun q hq => ?_⟩
  rw [← e q hq, ← e p hp.1]
  exact hp.2 q hq
/-! the reference's call -/
theorem Kf7 : ∀ m, m ≤ 7 → Kf m ≤ 1000000000 := by decide +kernel
theorem m_found (hn : WfN ν) (hI : NetM ν I) (hg : GoM ν go wd I) {a : Nat} (ha : a < ν.nn) (hz : z < ν.nn) (haz : a ≠ z) (h0 : 1 ≤ h) (hh : h ≤ 7) (hwd : ∀ l, -1000 ≤ wd l ∧ wd l ≤ 1000) (hN : 100000000000 ≤ N) :
    ∃ I', mX11_isFound N (nI a) (nI z) (nI h) I = some (if En ν go z h a [a] = [] then 0 else 1, I') ∧ FM I I' ∧ Rec ν wd (En ν go z h a [a]) I' := by
  have hnn := hn.2.1
  have hln := hn.2.2.1
  obtain ⟨m, rfl⟩ : ∃ m, h = m + 1 := ⟨h - 1, by omega⟩
  obtain ⟨I1, hI1⟩ : ∃ I1, I1 = upd2 (upd2 (upd2 I 310 32 (-1)) 310 35 0) 321 0 (-1) := ⟨_, rfl⟩
  have f1 : FM I I1 := by rw [hI1]; exact ((FM.rf.u0 (by simp)).u0 (by simp)).u (by simp)
  have hR : Rec ν wd [] I1 := by
    rw [hI1]
    refine ⟨?_, fun i hi => by simp at hi, ?_⟩
    · rw [u2_c (by decide), u2_at]; rfl
    · show upd2 _ 321 0 (-1) 310 32 = -1
      rw [u2_c (by decide), u2_ne (by decide), u2_at]
  obtain ⟨c, I2, hc, e2, f2, -, t2, R2, -⟩ := m_dfs (N := N) (wd := wd) (go := go) (z := z) (h := m + 1) hn ha (by omega) hh hwd (by omega) m ν.ln [] [a] a ((1 : Int32) <<< (nI a &&& 31)) I1 [] (by simp) (Nat.le_refl _) (by rw [hI1]; show upd2 _ 321 0 (-1) 321 0 + 1 = _; rw [u2_at, Nat.sub_self]; decide)
    ⟨rfl, by simp [vis], fun l hl => (by cases hl), fun i => by simp [vis], fun i hi => by rw [b_sh1 (by omega) hi]; simp, fun k hk => by simp at hk⟩ (hI.fm f1) (hg.fm f1) hR (fun q hq => by cases hq)
  have hk := Kf7 m (by omega)
  have hcN : c + 2 ≤ N := by
    have h1 : ν.ln * (3 + Kf m) ≤ 16 * (3 + Kf m) := Nat.mul_le_mul_right _ hln
    omega
  obtain ⟨k, hkN⟩ : ∃ k, N = (k + 1 + 1) + c := ⟨N - 2 - c, by omega⟩
  have R2' : Rec ν wd (En ν go z (m + 1) a [a]) I2 := by
    have : ([] : List (List Nat)) ++ (EnS ν go z (En ν go z m) a [a] ν.ln).map ([] ++ ·) = En ν go z (m + 1) a [a] := by
      rw [En, List.nil_append]
      exact (List.map_congr_left (fun _ _ => rfl)).trans (List.map_id _)
    rw [this] at R2
    exact R2
  refine ⟨upd2 I2 321 0 (nI ν.ln), ?_, (f1.tr f2).u (by simp), ?_⟩
  · have e0 : (0 : Int32).toNatClampNeg = 0 := by decide
    unfold mX11_isFound
    rw [e0, nm_n, ← hI1]
    have e3 : mX11_isFound_28 N (nI z) (nI (m + 1)) N 0 ((1 : Int32) <<< (nI a &&& 31)) (nI a) I1 = some (upd2 I2 321 0 (nI ν.ln)) := by
      have := e2 (k + 1 + 1)
      rw [← hkN] at this
      rw [show (0 : Int32) = nI ([] : List Nat).length from rfl, this]
      exact dfs_end hn ((hI.fm f1).fm f2) t2
    rw [e3, ob_some, u2_c (by decide)]
    have h3 := R2'.2.2
    cases hb : bl ν wd (En ν go z (m + 1) a [a]) with
    | none =>
      rw [hb] at h3
      rw [h3, if_pos rfl, if_pos (bl_none.mp hb)]
    | some p =>
      rw [hb] at h3
      have hp := (bl_best haz hb).1
      rw [h3.1, if_neg (nI_m1 (by have := hp.2.2.1; omega)), if_neg (fun e => by rw [bl_none.mpr e] at hb; cases hb)]
  · refine ⟨by rw [u2_c (by decide)]; exact R2'.1, fun i hi h2 => by rw [u2_c (by decide), u2_c (by decide)]; exact R2'.2.1 i hi h2, ?_⟩
    have h3 := R2'.2.2
    cases hb : bl ν wd (En ν go z (m + 1) a [a]) with
    | none => rw [hb] at h3; show upd2 I2 321 _ _ 310 32 = -1; rw [u2_c (by decide)]; exact h3
    | some q => rw [hb] at h3; refine ⟨by rw [u2_c (by decide)]; exact h3.1, by rw [u2_c (by decide)]; exact h3.2.1, by rw [u2_c (by decide)]; exact h3.2.2.1, by rw [u2_c (by decide)]; exact h3.2.2.2⟩
/-- what it finds: the best way; or there is none -/
theorem m_bestw (hn : WfN ν) (hI : NetM ν I) (hg : GoM ν go wd I) {a : Nat} (ha : a < ν.nn) (hz : z < ν.nn) (haz : a ≠ z) (h0 : 1 ≤ h) (hh : h ≤ 7) (hwd : ∀ l, -1000 ≤ wd l ∧ wd l ≤ 1000) (hN : 100000000000 ≤ N) :
    ∃ I', FM I I' ∧ Rec ν wd (En ν go z h a [a]) I' ∧ ((mX11_isFound N (nI a) (nI z) (nI h) I = some (1, I') ∧ ∃ p, isB ν go wd a z h p ∧ I' 310 32 = nI p.length ∧ I' 310 33 = nI (mt ν p) ∧ ∀ k, (hk : k < p.length) → I' 322 k = nI p[k]) ∨ (mX11_isFound N (nI a) (nI z) (nI h) I = some (0, I') ∧ I' 310 32 = -1 ∧ ∀ p, ¬ IsP ν go a z h p)) := by
  obtain ⟨I', e, f, R⟩ := m_found hn hI hg ha hz haz h0 hh hwd hN
  refine ⟨I', f, R, ?_⟩
  have h3 := R.2.2
  cases hb : bl ν wd (En ν go z h a [a]) with
  | none =>
    have he := bl_none.mp hb
    rw [hb] at h3
    exact Or.inr ⟨by rw [e, if_pos he], h3, fun p hp => by have := (mem_all haz).mpr hp; rw [he] at this; cases this⟩
  | some p =>
    rw [hb] at h3
    exact Or.inl ⟨by rw [e, if_neg (fun e => by rw [bl_none.mpr e] at hb; cases hb)], p, bl_best haz hb, h3.1, h3.2.1, h3.2.2.2⟩
end All
