/-! counts: sums, the fullest link, the worst link -/
def eO : Option Nat → Int32
  | none => -1
  | some l => nI l
/-- what is taken in a hundred -/
def pcv (ν : Nt) (σ : St) (l : Nat) : Int32 := (100 * zI ((ν.L l 3 : Int) - pl ν σ 99 l 7)) / nI (ν.L l 3)
def hvy (ν : Nt) (σ : St) : Nat → Option Nat
  | 0 => none
  | k + 1 => if bt σ.up k = true then (match hvy ν σ k with | none => some k | some m => if pcv ν σ k ≤ pcv ν σ m then some m else some k) else hvy ν σ k
/-- how many don't stand in the end, if a link fails -/
def lsN (ν : Nt) (σ : St) (l n : Nat) : Prop := ∃ c σ', Stl ν 9 (mk9 (onS σ l) ν.tn) (brk ν σ l) c σ' ∧ n = pcn (mk9 (fun i => snd9 σ i && !snd9 σ' i) ν.tn)
def Wv (ν : Nt) (σ : St) : Nat → Option Nat → Nat → Prop
  | 0, b, m => b = none ∧ m = 0
  | k + 1, b, m => ∃ b' m' n, Wv ν σ k b' m' ∧ lsN ν σ k n ∧ ((n ≤ m' ∧ b = b' ∧ m = m') ∨ (m' < n ∧ b = some k ∧ m = n))
section Count
variable {ν : Nt} {σ : St} {N u b : Nat} {I : gI}
theorem Gd.nd (g : Gd ν σ) {t : Nat} (ht : t < ν.tn) : (σ.w t).Nodup := by
  rcases (g.1 t ht).2.2 with h | h
  · rw [h]; exact List.nodup_nil
  · exact way_nodup h.1 h.2.1
theorem c_metric (hn : WfN ν) (hI : NetC ν I) (hN : 100 ≤ N) {p : List Nat} (hd : p.Nodup) (hp : ∀ l ∈ p, l < ν.ln) : mX4_metricOf N (wb p) I = some (nI (mt ν p)) := by
  have hln := hn.2.2.1
  obtain ⟨v, hP, e⟩ := loopP (F := fun n v i => mX4_metricOf_4 (wb p) I n v i) (b := ν.ln) (out := id)
    (P := fun k v => v = zI (sm (fun l => if l ∈ p then (ν.L l 2 : Int) else 0) k))
    (fun n v _ => by
      show mX4_metricOf_4 (wb p) I (n + 1) v (nI ν.ln) = some v
      rw [mX4_metricOf_4, hI.2.1, if_pos (nI_le (Nat.le_refl _) (by omega))])
    (fun n k v hk hP => by
      refine ⟨_, ?_, rfl⟩
      show mX4_metricOf_4 (wb p) I (n + 1) v (nI k) = mX4_metricOf_4 (wb p) I n _ (nI (k + 1))
      have hb := b_wb (i := k) (by omega) p (fun l hl => by have := hp l hl; omega)
      rw [mX4_metricOf_4, hI.2.1, if_neg (nI_ge hk (by omega)), ck_n (by omega) (by decide), nI_clamp (by omega), show I 5 k = nI (ν.L k 2) from hI.2.2.2.1 k hk 2 (by decide), nI_1, sm]
      subst hP
      by_cases hm : k ∈ p
      · rw [if_neg (fun h => by rw [cb0 (by omega), hb] at h; simp [hm] at h), if_pos hm, zI_addn]
      · rw [if_pos (by rw [cb0 (by omega), hb]; simp [hm]), if_neg hm, Int.add_zero])
    N 0 0 (Nat.zero_le _) (by omega) rfl
  unfold mX4_metricOf
  rw [show mX4_metricOf_4 (wb p) I N 0 0 = some v from e, ob_some, hP, sm_mem _ _ p hd hp, ← mt_sum, zI_nat]
theorem c_tall (hn : WfN ν) (hI : NetC ν I) (hs : CS ν u σ I) (hw : WfW ν σ) (hN : 100 ≤ N) : mX2_takenOfAll N u I = some (zI (sm (fun l => (ν.L l 3 : Int) - pl ν σ 99 l 7) ν.ln)) := by
  have hln := hn.2.2.1
  obtain ⟨v, hP, e⟩ := loopP (F := fun n v i => mX2_takenOfAll_4 N u I n v i) (b := ν.ln) (out := id)
    (P := fun k v => v = zI (sm (fun l => (ν.L l 3 : Int) - pl ν σ 99 l 7) k))
    (fun n v _ => by
      show mX2_takenOfAll_4 N u I (n + 1) v (nI ν.ln) = some v
      rw [mX2_takenOfAll_4, hI.2.1, if_pos (nI_le (Nat.le_refl _) (by omega))])
    (fun n k v hk hP => by
      refine ⟨_, ?_, rfl⟩
      show mX2_takenOfAll_4 N u I (n + 1) v (nI k) = mX2_takenOfAll_4 N u I n _ (nI (k + 1))
      rw [mX2_takenOfAll_4, hI.2.1, if_neg (nI_ge hk (by omega)), c_taken hn hI hs hw hN hk, ob_some, nI_1, hP, zI_add, sm])
    N 0 0 (Nat.zero_le _) (by omega) rfl
  unfold mX2_takenOfAll
  rw [show mX2_takenOfAll_4 N u I N 0 0 = some v from e, ob_some, hP]
theorem m_tall (hn : WfN ν) (hI : NetM ν I) (hs : MS ν 317 b σ I) (hw : WfW ν σ) (hb : b ≤ 82) (hN : 100 ≤ N) : mX11_takenAll N (nI b) I = some (zI (sm (fun l => (ν.L l 3 : Int) - pl ν σ 99 l 7) ν.ln)) := by
  have hln := hn.2.2.1
  obtain ⟨v, hP, e⟩ := loopP (F := fun n v i => mX11_takenAll_4 N (nI b) I n v i) (b := ν.ln) (out := id)
    (P := fun k v => v = zI (sm (fun l => (ν.L l 3 : Int) - pl ν σ 99 l 7) k))
    (fun n v _ => by
      show mX11_takenAll_4 N (nI b) I (n + 1) v (nI ν.ln) = some v
      rw [mX11_takenAll_4, hI.2.1, if_pos (nI_le (Nat.le_refl _) (by omega))])
    (fun n k v hk hP => by
      refine ⟨_, ?_, rfl⟩
      show mX11_takenAll_4 N (nI b) I (n + 1) v (nI k) = mX11_takenAll_4 N (nI b) I n _ (nI (k + 1))
      rw [mX11_takenAll_4, hI.2.1, if_neg (nI_ge hk (by omega)), m_taken hn hI hs hw hb hN hk, ob_some, nI_1, hP, zI_add, sm])
    N 0 0 (Nat.zero_le _) (by omega) rfl
  unfold mX11_takenAll
  rw [show mX11_takenAll_4 N (nI b) I N 0 0 = some v from e, ob_some, hP]
theorem c_mall (hn : WfN ν) (g : Gd ν σ) (hI : NetC ν I) (hs : CS ν u σ I) (hN : 100 ≤ N) : mX2_metricOfAll N u I = some (zI (sm (fun t => (mt ν (σ.w t) : Int)) ν.tn)) := by
  have htn := hn.2.2.2.1
  have hw := g.wf hn
  obtain ⟨v, hP, e⟩ := loopP (F := fun n v i => mX2_metricOfAll_4 N u I n v i) (b := ν.tn) (out := id)
    (P := fun k v => v = zI (sm (fun t => (mt ν (σ.w t) : Int)) k))
    (fun n v _ => by
      show mX2_metricOfAll_4 N u I (n + 1) v (nI ν.tn) = some v
      rw [mX2_metricOfAll_4, hI.2.2.1, if_pos (nI_le (Nat.le_refl _) (by omega))])
    (fun n k v hk hP => by
      refine ⟨_, ?_, rfl⟩
      show mX2_metricOfAll_4 N u I (n + 1) v (nI k) = mX2_metricOfAll_4 N u I n _ (nI (k + 1))
      rw [mX2_metricOfAll_4, hI.2.2.1, if_neg (nI_ge hk (by omega)), ck_n (by omega) (by decide), nI_clamp (by omega), (hs.2 k hk).1, c_metric hn hI hN (g.nd hk) (hw k hk).2.2, ob_some, nI_1, hP, zI_addn, sm])
    N 0 0 (Nat.zero_le _) (by omega) rfl
  unfold mX2_metricOfAll
  rw [show mX2_metricOfAll_4 N u I N 0 0 = some v from e, ob_some, hP]
theorem m_mall (hn : WfN ν) (g : Gd ν σ) (hI : NetM ν I) (hs : MS ν 317 0 σ I) (hN : 100 ≤ N) : mX11_metricAll N I = some (zI (sm (fun t => (mt ν (σ.w t) : Int)) ν.tn)) := by
  have htn := hn.2.2.2.1
  have hw := g.wf hn
  obtain ⟨v, hP, e⟩ := loopP (F := fun n v i => mX11_metricAll_4 N I n v i) (b := ν.tn) (out := id)
    (P := fun k v => v = zI (sm (fun t => (mt ν (σ.w t) : Int)) k))
    (fun n v _ => by
      show mX11_metricAll_4 N I (n + 1) v (nI ν.tn) = some v
      rw [mX11_metricAll_4, hI.2.2.1, if_pos (nI_le (Nat.le_refl _) (by omega))])
    (fun n k v hk hP => by
      refine ⟨_, ?_, rfl⟩
      show mX11_metricAll_4 N I (n + 1) v (nI k) = mX11_metricAll_4 N I n _ (nI (k + 1))
      rw [mX11_metricAll_4, hI.2.2.1, if_neg (nI_ge hk (by omega)), show mX11_wayBits N 0 (nI k) I = some (wb (σ.w k)) from m_wb (b := 0) hn hs hw (by omega) hN hk, ob_some, m_metric hn hI hN (g.nd hk) (hw k hk).2.2, ob_some, nI_1, hP, zI_addn, sm])
    N 0 0 (Nat.zero_le _) (by omega) rfl
  unfold mX11_metricAll
  rw [show mX11_metricAll_4 N I N 0 0 = some v from e, ob_some, hP]
theorem hvy_lt : ∀ {k m : Nat}, hvy ν σ k = some m → m < k
  | 0, m, h => by cases h
  | k + 1, m, h => by
    rw [hvy] at h
    split at h
    · cases hk : hvy ν σ k with
      | none => rw [hk] at h; cases h; omega
      | some j =>
        rw [hk] at h
        have := hvy_lt hk
        dsimp only at h
        split at h
        · cases h; omega
        · cases h; omega
    · have := hvy_lt h; omega
theorem c_pct (hn : WfN ν) (hI : NetC ν I) (hs : CS ν u σ I) (hw : WfW ν σ) (hN : 100 ≤ N) {l : Nat} (hl : l < ν.ln) : mX2_percentOf N u (nI l) I = some (pcv ν σ l) := by
  have hln := hn.2.2.1
  have hL := hn.2.2.2.2.1 l hl
  unfold mX2_percentOf
  rw [if_neg (nI_m1 (by omega)), ck_n (by omega) (by decide), nI_clamp (by omega), show I 6 l = nI (ν.L l 3) from hI.2.2.2.1 l hl 3 (by decide), if_pos (show (0 : Int32) < nI (ν.L l 3) from nI_lt (a := 0) (by omega) (by omega)), c_taken hn hI hs hw hN hl, ob_some, nz_n (nI_ne0 (by omega) (by omega))]
  rfl
theorem m_load (hn : WfN ν) (hI : NetM ν I) (hs : MS ν 317 0 σ I) (hw : WfW ν σ) (hN : 100 ≤ N) {l : Nat} (hl : l < ν.ln) : mX11_loadAt N (nI l) I = some (pcv ν σ l) := by
  have hln := hn.2.2.1
  have hL := hn.2.2.2.2.1 l hl
  unfold mX11_loadAt
  rw [show mX11_takenAt N 0 (nI l) I = _ from m_taken (b := 0) hn hI hs hw (by omega) hN hl, ob_some, show (3 : Int32) = nI 3 from rfl, n5, ck_n (by omega) (by decide), nI_clamp (by omega), hI.2.2.2.1 l hl 3 (by decide), nz_n (nI_ne0 (by omega) (by omega))]
  rfl
theorem c_full (hn : WfN ν) (hI : NetC ν I) (hs : CS ν u σ I) (hw : WfW ν σ) (hN : 100 ≤ N) : mX2_fullestLink N u I = some (eO (hvy ν σ ν.ln)) := by
  have hln := hn.2.2.1
  obtain ⟨v, hP, e⟩ := loopP (F := fun n v i => mX2_fullestLink_4 N u I n v i) (b := ν.ln) (out := id)
    (P := fun k v => v = eO (hvy ν σ k))
    (fun n v _ => by
      show mX2_fullestLink_4 N u I (n + 1) v (nI ν.ln) = some v
      rw [mX2_fullestLink_4, hI.2.1, if_pos (nI_le (Nat.le_refl _) (by omega))])
    (fun n k v hk hP => by
      refine ⟨_, ?_, rfl⟩
      show mX2_fullestLink_4 N u I (n + 1) v (nI k) = mX2_fullestLink_4 N u I n _ (nI (k + 1))
      rw [mX2_fullestLink_4, hI.2.1, if_neg (nI_ge hk (by omega)), hs.1, nI_1, hP, hvy]
      by_cases hb : bt σ.up k = true
      · rw [if_neg (fun h => by rw [cb0 (by omega), hb] at h; cases h), ob_some, if_neg (by decide), if_pos hb]
        cases hv : hvy ν σ k with
        | none => rw [if_pos (show eO none = -1 from rfl)]; rfl
        | some m =>
          have hm := hvy_lt hv
          rw [if_neg (show ¬ eO (some m) = -1 from nI_m1 (by omega)), c_pct hn hI hs hw hN hk, ob_some, show mX2_percentOf N u (eO (some m)) I = _ from c_pct hn hI hs hw hN (show m < ν.ln by omega), ob_some]
          dsimp only
          split <;> rfl
      · rw [if_pos (by rw [cb0 (by omega)]; exact Bool.eq_false_iff.mpr hb), ob_some, if_pos (by decide), if_neg hb])
    N 0 (-1) (Nat.zero_le _) (by omega) rfl
  unfold mX2_fullestLink
  rw [show mX2_fullestLink_4 N u I N (-1) 0 = some v from e, ob_some, hP]
theorem m_heavy (hn : WfN ν) (hI : NetM ν I) (hs : MS ν 317 0 σ I) (hw : WfW ν σ) (hN : 100 ≤ N) : mX11_heaviest N I = some (eO (hvy ν σ ν.ln)) := by
  have hln := hn.2.2.1
  obtain ⟨v, hP, e⟩ := loopP (F := fun n v i => mX11_heaviest_4 N I n v i) (b := ν.ln) (out := id)
    (P := fun k v => v = eO (hvy ν σ k))
    (fun n v _ => by
      show mX11_heaviest_4 N I (n + 1) v (nI ν.ln) = some v
      rw [mX11_heaviest_4, hI.2.1, if_pos (nI_le (Nat.le_refl _) (by omega))])
    (fun n k v hk hP => by
      refine ⟨_, ?_, rfl⟩
      show mX11_heaviest_4 N I (n + 1) v (nI k) = mX11_heaviest_4 N I n _ (nI (k + 1))
      rw [mX11_heaviest_4, hI.2.1, if_neg (nI_ge hk (by omega)), show mX11_isUp 0 (nI k) I = _ from m_up (b := 0) hs (by omega) (by omega), ob_some, nI_1, hP, hvy]
      by_cases hb : bt σ.up k = true
      · rw [if_pos hb, if_neg (show ¬ (1 : Int32) = 0 by decide), if_pos hb]
        cases hv : hvy ν σ k with
        | none => rw [if_pos (show eO none = -1 from rfl)]; rfl
        | some m =>
          have hm := hvy_lt hv
          rw [if_neg (show ¬ eO (some m) = -1 from nI_m1 (by omega)), m_load hn hI hs hw hN hk, ob_some, show mX11_loadAt N (eO (some m)) I = _ from m_load hn hI hs hw hN (show m < ν.ln by omega), ob_some]
          dsimp only
          split <;> rfl
      · rw [if_neg hb, if_pos (show (0 : Int32) = 0 from rfl), if_neg hb])
    N 0 (-1) (Nat.zero_le _) (by omega) rfl
  unfold mX11_heaviest
  rw [show mX11_heaviest_4 N I N (-1) 0 = some v from e, ob_some, hP]
/-! the worst link -/
theorem mk9_z {p : Nat → Bool} : ∀ {n : Nat}, (∀ i, i < n → p i = false) → mk9 p n = 0
  | 0, _ => rfl
  | n + 1, h => by rw [mk9, h n (by omega), if_neg (by decide), mk9_z (fun i hi => h i (by omega))]
theorem pcn_le (s : Nat) : pcn s ≤ 16 := by
  unfold pcn
  have := List.length_filter_le (fun i => s.testBit i) (List.range 16)
  rwa [List.length_range] at this
theorem lo_one (hn : WfN ν) {l n n' : Nat} (h : lsN ν σ l n) (h' : lsN ν σ l n') : n = n' := by
  obtain ⟨c, s, h1, h2⟩ := h
  obtain ⟨c', s', h1', h2'⟩ := h'
  obtain ⟨-, rfl⟩ := Stl_one hn h1 h1'
  rw [h2, h2']
theorem lo_le {l n : Nat} (h : lsN ν σ l n) : n ≤ 16 := by
  obtain ⟨c, s, h1, h2⟩ := h
  rw [h2]; exact pcn_le _
theorem lo_none {l : Nat} (h0 : mk9 (onS σ l) ν.tn = 0) : lsN ν σ l 0 := by
  refine ⟨0, brk ν σ l, Or.inl ⟨h0, rfl, rfl⟩, ?_⟩
  rw [mk9_z]
  · decide
  · intro i hi
    have : (brk ν σ l).w i = σ.w i := by
      unfold brk
      rw [h0, dpW_w, if_neg (by simp)]
      rfl
    unfold snd9
    rw [this]
    simp
theorem lo_down (g : Gd ν σ) {l : Nat} (hd : bt σ.up l = false) : lsN ν σ l 0 := by
  apply lo_none
  apply mk9_z
  intro t ht
  unfold onS
  rw [decide_eq_false_iff_not]
  intro hl
  rcases (g.1 t ht).2.2 with h | h
  · rw [h] at hl; cases hl
  · have := h.2.2.2 l hl
    unfold opn at this
    rw [hd] at this
    simp at this
theorem nI_dif' {p q : Nat → Bool} {n : Nat} : nI (mk9 p n) &&& (nI (mk9 q n) ^^^ (-1)) = nI (mk9 (fun i => p i && !q i) n) := nI_dif (fun i hi => by
  rw [mk9_tb, mk9_tb, mk9_tb]
  by_cases h : i < n <;> simp [h])
theorem c_lost (hn : WfN ν) (g : Gd ν σ) (hI : NetC ν I) (hs : CS ν 36 σ I) (hN : 1000 ≤ N) {l : Nat} (hl : l < ν.ln) : ∃ n I', lsN ν σ l n ∧ mX10_lostBy N (nI l) I = some (nI n, I') ∧ Fr [30, 31, 32, 33, 36, 37, 38, 39, 40, 41] I I' ∧ CS ν 36 σ I' := by
  have htn := hn.2.2.2.1
  have hln := hn.2.2.1
  have hw := g.wf hn
  have eo : mX2_tunnelsOn N 36 (nI l) I = some (nI (mk9 (onS σ l) ν.tn)) := by
    rw [c_on hn hI hs hw (by omega) hl, ← mk9_bm _ (by omega)]
    rfl
  have h512 := mk9_512 hn (onS σ l)
  by_cases h0 : mk9 (onS σ l) ν.tn = 0
  · refine ⟨0, I, lo_none h0, ?_, Fr.rf, hs⟩
    unfold mX10_lostBy
    rw [if_neg (nI_m1 (by omega)), eo, ob_some, if_pos (by rw [h0]; rfl)]
    rfl
  · obtain ⟨I7, e7, f7, cs7⟩ := c_copy (N := N) (u := 39) (w := 36) hn (by omega) (by omega) hs
    have cs7' := hs.fr f7 (by simp) (by simp) (by simp)
    have c7 := hI.fr f7 (by simp)
    obtain ⟨I10, e10, f10, cs10⟩ := c_break (N := N) (u := 36) hn c7 cs7' hw (by omega) (by omega) hl
    have c10 := c7.fr f10 (by simp)
    obtain ⟨n, σ', I13, e13, hS, cs13, g13, f13, -, -⟩ := c_settle (N := N) (u := 36) hn (by omega) (by omega) (Gd_brk hn g hl) c10 cs10 (mk9_lt _)
    have c13 := c10.fr f13 (by simp)
    have cs39 : CS ν 39 σ I13 := (cs7.fr f10 (by simp) (by simp) (by simp)).fr f13 (by simp) (by simp) (by simp)
    obtain ⟨I19, e19, f19, cs19⟩ := c_copy (N := N) (u := 36) (w := 39) hn (by omega) (by omega) cs39
    refine ⟨pcn (mk9 (fun i => snd9 σ i && !snd9 σ' i) ν.tn), I19, ⟨n, σ', hS, rfl⟩, ?_, (((f7.mono (by simp)).tr (f10.mono (by simp))).tr (f13.mono (by simp))).tr (f19.mono (by simp)), cs19⟩
    unfold mX10_lostBy
    rw [if_neg (nI_m1 (by omega)), eo, ob_some, if_neg (nI_ne0 (by omega) (by omega)), c_stands hn hI hs hw (by omega), ob_some, e7, ob_some, e10, ob_some]
    dsimp only
    rw [e13, ob_some]
    dsimp only
    rw [c_stands hn c13 cs13 (g13.wf hn) (by omega), ob_some, nI_dif', c_bits (mk9_512 hn _), ob_some, e19, ob_some]
theorem Stl_gd (hn : WfN ν) : ∀ {n s : Nat} {σ : St} {c : Nat} {σ' : St}, Gd ν σ → Stl ν n s σ c σ' → Gd ν σ'
  | 0, s, σ, c, σ', g, h => by rw [h.2.2]; exact g
  | n + 1, s, σ, c, σ', g, h => by
    rcases h with ⟨h0, h1, h2⟩ | ⟨h0, t, q, ht, hq, ⟨hz, h⟩ | ⟨hz, s1, d1, hp, hc, h⟩⟩
    · rw [h2]; exact g
    · exact Stl_gd hn g h
    · exact Stl_gd hn (Gd_step hn g ht.1 (bst_isB hq hz) hp) h
theorem m_loss (hn : WfN ν) (g : Gd ν σ) (hI : NetM ν I) (hs : MS ν 317 0 σ I) (hN : 100000000000 ≤ N) {l n : Nat} (hl : l < ν.ln) (hlo : lsN ν σ l n) : ∃ I', mX11_lossBy N (nI l) I = some (nI n, I') ∧ FS 82 I I' := by
  have hw := g.wf hn
  obtain ⟨c, σ', hS, rfl⟩ := hlo
  obtain ⟨I1, e1, f1, z1, h1⟩ := m_tries (N := N) hn hw (by omega) hs
  obtain ⟨I3, e3, h3, f3⟩ := m_fails (N := N) (b := 82) hn hN (by omega) hl g (hI.fs f1) h1 hS
  have hI3 := (hI.fs f1).fs f3
  have hM0 : MS ν 317 0 σ I3 := MS.fr hn hw hs (fun j _ hj => (f1.tr f3).2.2 j (by omega))
  have hw' : WfW ν σ' := (Stl_gd hn (Gd_brk hn g hl) hS).wf hn
  refine ⟨I3, ?_, f1.tr f3⟩
  unfold mX11_lossBy
  rw [e1, ob_some, show mX11_fails N 82 (nI l) I1 = some I3 from e3, ob_some, show mX11_standing N 0 I3 = _ from m_stands (b := 0) hn hI3 hM0 hw (by omega) (by omega), ob_some, show mX11_standing N 82 I3 = _ from m_stands (b := 82) hn hI3 h3 hw' (by omega) (by omega), ob_some, nI_dif', m_bits (by omega), ob_some]
theorem Wv_one (hn : WfN ν) : ∀ {k : Nat} {b b' : Option Nat} {m m' : Nat}, Wv ν σ k b m → Wv ν σ k b' m' → b = b' ∧ m = m'
  | 0, b, b', m, m', h, h' => ⟨h.1.trans h'.1.symm, h.2.trans h'.2.symm⟩
  | k + 1, b, b', m, m', ⟨b1, m1, n1, w1, l1, h1⟩, ⟨b2, m2, n2, w2, l2, h2⟩ => by
    obtain ⟨rfl, rfl⟩ := Wv_one hn w1 w2
    obtain rfl := lo_one hn l1 l2
    rcases h1 with ⟨h1, rfl, rfl⟩ | ⟨h1, rfl, rfl⟩ <;> rcases h2 with ⟨h2, rfl, rfl⟩ | ⟨h2, rfl, rfl⟩
    · exact ⟨rfl, rfl⟩
    · omega
    · omega
    · exact ⟨rfl, rfl⟩
theorem Wv_fin : ∀ {k : Nat} {b : Option Nat} {m : Nat}, Wv ν σ k b m → (b = none ∧ m = 0) ∨ ∃ l, b = some l ∧ l < k ∧ lsN ν σ l m
  | 0, b, m, h => Or.inl h
  | k + 1, b, m, ⟨b1, m1, n1, w1, l1, h1⟩ => by
    rcases h1 with ⟨h1, rfl, rfl⟩ | ⟨h1, rfl, rfl⟩
    · rcases Wv_fin w1 with h | ⟨l, h2, h3, h4⟩
      · exact Or.inl h
      · exact Or.inr ⟨l, h2, by omega, h4⟩
    · exact Or.inr ⟨k, rfl, by omega, l1⟩
theorem Wv_le {k : Nat} {b : Option Nat} {m : Nat} (h : Wv ν σ k b m) : m ≤ 16 := by
  rcases Wv_fin h with h | ⟨l, -, -, h⟩
  · omega
  · exact lo_le h
theorem c_worst (hn : WfN ν) (g : Gd ν σ) (hI : NetC ν I) (hs : CS ν 36 σ I) (hN : 1000 ≤ N) : ∃ b m I', Wv ν σ ν.ln b m ∧ mX10_worstLink N I = some (eO b, I') ∧ Fr [30, 31, 32, 33, 36, 37, 38, 39, 40, 41] I I' ∧ CS ν 36 σ I' := by
  have hln := hn.2.2.1
  obtain ⟨s', hP, e⟩ := loopP (σ := Int32 × Int32 × gI) (F := fun n s i => mX10_worstLink_6 N n s.1 s.2.1 i s.2.2) (b := ν.ln) (out := fun s => (s.1, s.2.2))
    (P := fun k s => Fr [30, 31, 32, 33, 36, 37, 38, 39, 40, 41] I s.2.2 ∧ CS ν 36 σ s.2.2 ∧ ∃ b m, Wv ν σ k b m ∧ s.1 = eO b ∧ s.2.1 = nI m)
    (fun n s hP => by
      show mX10_worstLink_6 N (n + 1) s.1 s.2.1 (nI ν.ln) s.2.2 = some (s.1, s.2.2)
      rw [mX10_worstLink_6, (hI.fr hP.1 (by simp)).2.1, if_pos (nI_le (Nat.le_refl _) (by omega))])
    (fun n k s hk hP => by
      obtain ⟨f, cs, b, m, hW, h1, h2⟩ := hP
      have cI := hI.fr f (by simp)
      have hm := Wv_le hW
      obtain ⟨x, I3, hlo, e3, f3, cs3⟩ := c_lost (N := N) hn g cI cs hN hk
      have hx := lo_le hlo
      by_cases hc : x ≤ m
      · refine ⟨(s.1, s.2.1, I3), ?_, f.tr f3, cs3, b, m, ⟨b, m, x, hW, hlo, Or.inl ⟨hc, rfl, rfl⟩⟩, h1, h2⟩
        show mX10_worstLink_6 N (n + 1) s.1 s.2.1 (nI k) s.2.2 = mX10_worstLink_6 N n s.1 s.2.1 (nI (k + 1)) I3
        rw [mX10_worstLink_6, cI.2.1, if_neg (nI_ge hk (by omega)), e3, ob_some]
        dsimp only
        rw [h2, if_pos (nI_le hc (by omega)), nI_1]
      · refine ⟨(nI k, nI x, I3), ?_, f.tr f3, cs3, some k, x, ⟨b, m, x, hW, hlo, Or.inr ⟨by omega, rfl, rfl⟩⟩, rfl, rfl⟩
        show mX10_worstLink_6 N (n + 1) s.1 s.2.1 (nI k) s.2.2 = mX10_worstLink_6 N n (nI k) (nI x) (nI (k + 1)) I3
        rw [mX10_worstLink_6, cI.2.1, if_neg (nI_ge hk (by omega)), e3, ob_some]
        dsimp only
        rw [h2, if_neg (nI_ge (by omega) (by omega)), nI_1])
    N 0 (-1, 0, I) (Nat.zero_le _) (by omega) ⟨Fr.rf, hs, none, 0, ⟨rfl, rfl⟩, rfl, rfl⟩
  obtain ⟨f, cs, b, m, hW, h1, h2⟩ := hP
  refine ⟨b, m, s'.2.2, hW, ?_, f, cs⟩
  unfold mX10_worstLink
  rw [show mX10_worstLink_6 N N (-1) 0 0 I = some (s'.1, s'.2.2) from e, ob_some]
  dsimp only
  rw [h1]
theorem m_worst (hn : WfN ν) (g : Gd ν σ) (hI : NetM ν I) (hs : MS ν 317 0 σ I) (hN : 100000000000 ≤ N) {b : Option Nat} {m : Nat} (hW9 : Wv ν σ ν.ln b m) : ∃ I', FS 82 I I' ∧ mX11_worst N 0 I = some (eO b, I') ∧ mX11_worst N 1 I = some (nI m, I') := by
  have hln := hn.2.2.1
  have hw := g.wf hn
  have key : ∀ a : Int32, ∃ s' : Int32 × Int32 × gI, mX11_worst_7 N a N (-1) 0 0 I = some s' ∧ FS 82 I s'.2.2 ∧ s'.1 = eO b ∧ s'.2.1 = nI m := by
    intro a
    obtain ⟨s', hP, e⟩ := loopP (σ := Int32 × Int32 × gI) (F := fun n s i => mX11_worst_7 N a n s.1 s.2.1 i s.2.2) (b := ν.ln) (out := fun s => (s.1, s.2.1, s.2.2))
      (P := fun k s => FS 82 I s.2.2 ∧ ∃ b m, Wv ν σ k b m ∧ s.1 = eO b ∧ s.2.1 = nI m)
      (fun n s hP => by
        show mX11_worst_7 N a (n + 1) s.1 s.2.1 (nI ν.ln) s.2.2 = some (s.1, s.2.1, s.2.2)
        rw [mX11_worst_7, (hI.fs hP.1).2.1, if_pos (nI_le (Nat.le_refl _) (by omega))])
      (fun n k s hk hP => by
        obtain ⟨f, b, m, hW, h1, h2⟩ := hP
        have cI := hI.fs f
        have hm := Wv_le hW
        have hM : MS ν 317 0 σ s.2.2 := MS.fr hn hw hs (fun j _ hj => f.2.2 j (by omega))
        have eu : mX11_isUp 0 (nI k) s.2.2 = _ := m_up (b := 0) hM (by omega) (by omega)
        cases hu : bt σ.up k with
        | false =>
          refine ⟨s, ?_, f, b, m, ⟨b, m, 0, hW, lo_down g hu, Or.inl ⟨by omega, rfl, rfl⟩⟩, h1, h2⟩
          show mX11_worst_7 N a (n + 1) s.1 s.2.1 (nI k) s.2.2 = mX11_worst_7 N a n s.1 s.2.1 (nI (k + 1)) s.2.2
          rw [mX11_worst_7, cI.2.1, if_neg (nI_ge hk (by omega)), eu, hu, ob_some, if_neg (show ¬ false = true by decide), if_pos (show (0 : Int32) = 0 from rfl), nI_1]
        | true =>
          obtain ⟨x, hlo⟩ : ∃ x, lsN ν σ k x := by
            have : ∀ {k : Nat} {b : Option Nat} {m : Nat}, Wv ν σ k b m → ∀ j, j < k → ∃ x, lsN ν σ j x := by
              intro k
              induction k with
              | zero => intro b m h j hj; omega
              | succ k ih =>
                intro b m h j hj
                obtain ⟨b1, m1, n1, w1, l1, -⟩ := h
                by_cases hjk : j = k
                · subst hjk; exact ⟨_, l1⟩
                · exact ih w1 j (by omega)
            exact this hW9 k hk
          have hx := lo_le hlo
          obtain ⟨I3, e3, f3⟩ := m_loss (N := N) hn g cI hM hN hk hlo
          by_cases hc : x ≤ m
          · refine ⟨(s.1, s.2.1, I3), ?_, f.tr f3, b, m, ⟨b, m, x, hW, hlo, Or.inl ⟨hc, rfl, rfl⟩⟩, h1, h2⟩
            show mX11_worst_7 N a (n + 1) s.1 s.2.1 (nI k) s.2.2 = mX11_worst_7 N a n s.1 s.2.1 (nI (k + 1)) I3
            rw [mX11_worst_7, cI.2.1, if_neg (nI_ge hk (by omega)), eu, hu, ob_some, if_pos (show true = true from rfl), if_neg (show ¬ (1 : Int32) = 0 by decide), e3, ob_some]
            dsimp only
            rw [h2, if_neg (nI_nlt hc (by omega)), nI_1]
          · refine ⟨(nI k, nI x, I3), ?_, f.tr f3, some k, x, ⟨b, m, x, hW, hlo, Or.inr ⟨by omega, rfl, rfl⟩⟩, rfl, rfl⟩
            show mX11_worst_7 N a (n + 1) s.1 s.2.1 (nI k) s.2.2 = mX11_worst_7 N a n (nI k) (nI x) (nI (k + 1)) I3
            rw [mX11_worst_7, cI.2.1, if_neg (nI_ge hk (by omega)), eu, hu, ob_some, if_pos (show true = true from rfl), if_neg (show ¬ (1 : Int32) = 0 by decide), e3, ob_some]
            dsimp only
            rw [h2, if_pos (nI_lt (by omega) (by omega)), nI_1])
      N 0 (-1, 0, I) (Nat.zero_le _) (by omega) ⟨FS.rf, none, 0, ⟨rfl, rfl⟩, rfl, rfl⟩
    obtain ⟨f, b', m', hW, h1, h2⟩ := hP
    obtain ⟨rfl, rfl⟩ := Wv_one hn hW9 hW
    exact ⟨s', e, f, h1, h2⟩
  obtain ⟨s0, e0, f0, a0, b0⟩ := key 0
  obtain ⟨s1, e1, f1, a1, b1⟩ := key 1
  have es : ∀ (n : Nat) (v2 v3 v4 : Int32) (K : gI), mX11_worst_7 N 0 n v2 v3 v4 K = mX11_worst_7 N 1 n v2 v3 v4 K := by
    intro n
    induction n with
    | zero => intro v2 v3 v4 K; rfl
    | succ n ih => intro v2 v3 v4 K; rw [mX11_worst_7, mX11_worst_7]; simp only [ih]
  have h01 : s0 = s1 := by
    rw [es, e1] at e0
    exact (Option.some.inj e0).symm
  subst h01
  refine ⟨s0.2.2, f0, ?_, ?_⟩
  · unfold mX11_worst
    rw [e0, ob_some]
    dsimp only
    rw [if_pos rfl, a0]
  · unfold mX11_worst
    rw [e1, ob_some]
    dsimp only
    rw [if_neg (by decide), b1]
end Count
section Steps11
variable {N : Nat}
set_option maxHeartbeats 2000000 in
theorem s_count (hN : 100000000000 ≤ N) : St_count N Inv := by
  intro c I J a1 hc hInv
  obtain ⟨⟨ν, σ, ks, vs, hP⟩, mv⟩ := id hInv
  obtain ⟨hn, g, c1, m1, c2, m2, ac, sg, im, tp, ct⟩ := id hP
  have hln := hn.2.2.1
  have hww := g.wf hn
  have s0 : ∀ {K : gI}, Sm K (upd2 K 310 0 0) := Sm.rf.u0
  have m1' : NetM ν (upd2 I 310 0 0) := m1.sm s0
  have m2' : MS ν 317 0 σ (upd2 I 310 0 0) := m2.c (u2_c (by decide))
  have kp : ∀ c j, ¬ (c = 310 ∧ j = 0) → (upd2 I 310 0 0) c j = I c j := fun c j h => u2_ne h
  rcases wi_ck (lo := 0) (hi := 16) (by omega) (by omega) a1 with ⟨p, -, hp, rfl, eW⟩ | ⟨hno, eW⟩
  · have bM : ∀ K : gI, mX11_count N (nI p) K = (if nI p = 0 then (some ((upd2 K 310 0 0) 310 13, (upd2 K 310 0 0))) else (if nI p = 1 then (some ((upd2 K 310 0 0) 310 14, (upd2 K 310 0 0))) else (if nI p = 2 then (some ((upd2 K 310 0 0) 310 15, (upd2 K 310 0 0))) else (if nI p = 3 then (Option.bind (mX11_standing N 0 (upd2 K 310 0 0)) (fun r11 => some (r11, (upd2 K 310 0 0)))) else (if nI p = 4 then (some ((upd2 K 310 0 0) 317 (0 : Int32).toNatClampNeg, (upd2 K 310 0 0))) else (if nI p = 5 then (Option.bind (mX11_takenAll N 0 (upd2 K 310 0 0)) (fun r15 => some (r15, (upd2 K 310 0 0)))) else (if nI p = 6 then (Option.bind (mX11_metricAll N (upd2 K 310 0 0)) (fun r18 => some (r18, (upd2 K 310 0 0)))) else (if nI p = 7 then (Option.bind (mX11_heaviest N (upd2 K 310 0 0)) (fun r21 => some (r21, (upd2 K 310 0 0)))) else (if nI p = 8 then (Option.bind (mX11_heaviest N (upd2 K 310 0 0)) (fun r24 => if r24 = (-1) then (some (0, (upd2 K 310 0 0))) else (Option.bind (mX11_heaviest N (upd2 K 310 0 0)) (fun r27 => Option.bind (mX11_loadAt N r27 (upd2 K 310 0 0)) (fun r29 => some (r29, (upd2 K 310 0 0))))))) else (if nI p = 9 then (Option.bind (mX11_worst N 0 (upd2 K 310 0 0)) (fun (r32, I33) => some (r32, I33))) else (if nI p = 10 then (Option.bind (mX11_worst N 1 (upd2 K 310 0 0)) (fun (r36, I37) => some (r36, I37))) else (if nI p = 11 then (some ((upd2 K 310 0 0) 310 25, (upd2 K 310 0 0))) else (if nI p = 12 then (some ((upd2 K 310 0 0) 310 45, (upd2 K 310 0 0))) else (if nI p = 13 then (some ((upd2 K 310 0 0) 310 2, (upd2 K 310 0 0))) else (ck (nI p - 14) 3 (some ((upd2 K 310 0 0) 312 (nI p - 14).toNatClampNeg, (upd2 K 310 0 0)))))))))))))))))) := by
      intro K
      unfold mX11_count
      rw [show mX11_within (nI p) 0 16 (upd2 K 310 0 0) = some 1 from eW _, ob_some, m_right1 u2_at, ob_some]
      dsimp only
      rw [if_neg (show ¬ (1 : Int32) = 0 by decide)]
    have fin : ∀ (r : Int32) (I1 I2 : gI), mX10_count N (nI p) I = some (.inl r, I1) → mX11_count N (nI p) I1 = some (r, I2) → I2 310 0 = 0 → Inv (c + 1) I2 → ∃ (rv : Int32 ⊕ String) (I1 : gI) (bb : Int32) (I2 : gI), mX10_count N (nI p) I = some (rv, I1) ∧ (∀ E, rv = .inr E → E = xnN) ∧ mX11_count N (nI p) I1 = some (bb, I2) ∧ I2 310 0 = kL1 rv ∧ (∀ v, rv = .inl v → v = bb) ∧ Inv (c + 1) I2 := fun r I1 I2 h1 h2 h3 h4 => ⟨.inl r, I1, r, I2, h1, (fun E h => by cases h), h2, h3.trans rfl, (fun v h => by cases h; rfl), h4⟩
    have fin0 : ∀ (r : Int32), mX10_count N (nI p) I = some (.inl r, I) → mX11_count N (nI p) I = some (r, upd2 I 310 0 0) → ∃ (rv : Int32 ⊕ String) (I1 : gI) (bb : Int32) (I2 : gI), mX10_count N (nI p) I = some (rv, I1) ∧ (∀ E, rv = .inr E → E = xnN) ∧ mX11_count N (nI p) I1 = some (bb, I2) ∧ I2 310 0 = kL1 rv ∧ (∀ v, rv = .inl v → v = bb) ∧ Inv (c + 1) I2 := fun r h1 h2 => fin r I _ h1 h2 u2_at (hInv.sm s0)
    have hcases : p = 0 ∨ p = 1 ∨ p = 2 ∨ p = 3 ∨ p = 4 ∨ p = 5 ∨ p = 6 ∨ p = 7 ∨ p = 8 ∨ p = 9 ∨ p = 10 ∨ p = 11 ∨ p = 12 ∨ p = 13 ∨ p = 14 ∨ p = 15 ∨ p = 16 := by omega
    rcases hcases with rfl | rfl | rfl | rfl | rfl | rfl | rfl | rfl | rfl | rfl | rfl | rfl | rfl | rfl | rfl | rfl | rfl
    · refine fin0 (nI ν.nn) ?_ ?_
      · unfold mX10_count
        rw [if_pos (show nI 0 = 0 from rfl), c1.1]
      · rw [bM, if_pos (show nI 0 = 0 from rfl), m1'.1]
    · refine fin0 (nI ν.ln) ?_ ?_
      · unfold mX10_count
        rw [if_neg (show ¬ nI 1 = 0 by decide), if_pos (show nI 1 = 1 from rfl), c1.2.1]
      · rw [bM, if_neg (show ¬ nI 1 = 0 by decide), if_pos (show nI 1 = 1 from rfl), m1'.2.1]
    · refine fin0 (nI ν.tn) ?_ ?_
      · unfold mX10_count
        rw [if_neg (show ¬ nI 2 = 0 by decide), if_neg (show ¬ nI 2 = 1 by decide), if_pos (show nI 2 = 2 from rfl), c1.2.2.1]
      · rw [bM, if_neg (show ¬ nI 2 = 0 by decide), if_neg (show ¬ nI 2 = 1 by decide), if_pos (show nI 2 = 2 from rfl), m1'.2.2.1]
    · refine fin0 (nI (mk9 (snd9 σ) ν.tn)) ?_ ?_
      · unfold mX10_count
        rw [if_neg (show ¬ nI 3 = 0 by decide), if_neg (show ¬ nI 3 = 1 by decide), if_neg (show ¬ nI 3 = 2 by decide), if_pos (show nI 3 = 3 from rfl), c_stands hn c1 c2 hww (by omega), ob_some]
      · rw [bM, if_neg (show ¬ nI 3 = 0 by decide), if_neg (show ¬ nI 3 = 1 by decide), if_neg (show ¬ nI 3 = 2 by decide), if_pos (show nI 3 = 3 from rfl), show mX11_standing N 0 (upd2 I 310 0 0) = _ from m_stands (b := 0) hn m1' m2' hww (by omega) (by omega), ob_some]
    · refine fin0 (σ.up) ?_ ?_
      · unfold mX10_count
        rw [if_neg (show ¬ nI 4 = 0 by decide), if_neg (show ¬ nI 4 = 1 by decide), if_neg (show ¬ nI 4 = 2 by decide), if_neg (show ¬ nI 4 = 3 by decide), if_pos (show nI 4 = 4 from rfl), show I 36 2 = σ.up from c2.1]
      · rw [bM, if_neg (show ¬ nI 4 = 0 by decide), if_neg (show ¬ nI 4 = 1 by decide), if_neg (show ¬ nI 4 = 2 by decide), if_neg (show ¬ nI 4 = 3 by decide), if_pos (show nI 4 = 4 from rfl), show (upd2 I 310 0 0) 317 (0 : Int32).toNatClampNeg = σ.up from m2'.1]
    · refine fin0 (zI (sm (fun l => (ν.L l 3 : Int) - pl ν σ 99 l 7) ν.ln)) ?_ ?_
      · unfold mX10_count
        rw [if_neg (show ¬ nI 5 = 0 by decide), if_neg (show ¬ nI 5 = 1 by decide), if_neg (show ¬ nI 5 = 2 by decide), if_neg (show ¬ nI 5 = 3 by decide), if_neg (show ¬ nI 5 = 4 by decide), if_pos (show nI 5 = 5 from rfl), c_tall hn c1 c2 hww (by omega), ob_some]
      · rw [bM, if_neg (show ¬ nI 5 = 0 by decide), if_neg (show ¬ nI 5 = 1 by decide), if_neg (show ¬ nI 5 = 2 by decide), if_neg (show ¬ nI 5 = 3 by decide), if_neg (show ¬ nI 5 = 4 by decide), if_pos (show nI 5 = 5 from rfl), show mX11_takenAll N 0 (upd2 I 310 0 0) = _ from m_tall (b := 0) hn m1' m2' hww (by omega) (by omega), ob_some]
    · refine fin0 (zI (sm (fun t => (mt ν (σ.w t) : Int)) ν.tn)) ?_ ?_
      · unfold mX10_count
        rw [if_neg (show ¬ nI 6 = 0 by decide), if_neg (show ¬ nI 6 = 1 by decide), if_neg (show ¬ nI 6 = 2 by decide), if_neg (show ¬ nI 6 = 3 by decide), if_neg (show ¬ nI 6 = 4 by decide), if_neg (show ¬ nI 6 = 5 by decide), if_pos (show nI 6 = 6 from rfl), c_mall hn g c1 c2 (by omega), ob_some]
      · rw [bM, if_neg (show ¬ nI 6 = 0 by decide), if_neg (show ¬ nI 6 = 1 by decide), if_neg (show ¬ nI 6 = 2 by decide), if_neg (show ¬ nI 6 = 3 by decide), if_neg (show ¬ nI 6 = 4 by decide), if_neg (show ¬ nI 6 = 5 by decide), if_pos (show nI 6 = 6 from rfl), m_mall hn g m1' m2' (by omega), ob_some]
    · refine fin0 (eO (hvy ν σ ν.ln)) ?_ ?_
      · unfold mX10_count
        rw [if_neg (show ¬ nI 7 = 0 by decide), if_neg (show ¬ nI 7 = 1 by decide), if_neg (show ¬ nI 7 = 2 by decide), if_neg (show ¬ nI 7 = 3 by decide), if_neg (show ¬ nI 7 = 4 by decide), if_neg (show ¬ nI 7 = 5 by decide), if_neg (show ¬ nI 7 = 6 by decide), if_pos (show nI 7 = 7 from rfl), c_full hn c1 c2 hww (by omega), ob_some]
      · rw [bM, if_neg (show ¬ nI 7 = 0 by decide), if_neg (show ¬ nI 7 = 1 by decide), if_neg (show ¬ nI 7 = 2 by decide), if_neg (show ¬ nI 7 = 3 by decide), if_neg (show ¬ nI 7 = 4 by decide), if_neg (show ¬ nI 7 = 5 by decide), if_neg (show ¬ nI 7 = 6 by decide), if_pos (show nI 7 = 7 from rfl), m_heavy hn m1' m2' hww (by omega), ob_some]
    · cases hv : hvy ν σ ν.ln with
      | none =>
        refine fin0 0 ?_ ?_
        · unfold mX10_count
          rw [if_neg (show ¬ nI 8 = 0 by decide), if_neg (show ¬ nI 8 = 1 by decide), if_neg (show ¬ nI 8 = 2 by decide), if_neg (show ¬ nI 8 = 3 by decide), if_neg (show ¬ nI 8 = 4 by decide), if_neg (show ¬ nI 8 = 5 by decide), if_neg (show ¬ nI 8 = 6 by decide), if_neg (show ¬ nI 8 = 7 by decide), if_pos (show nI 8 = 8 from rfl), c_full hn c1 c2 hww (by omega), ob_some, hv]
          rfl
        · rw [bM, if_neg (show ¬ nI 8 = 0 by decide), if_neg (show ¬ nI 8 = 1 by decide), if_neg (show ¬ nI 8 = 2 by decide), if_neg (show ¬ nI 8 = 3 by decide), if_neg (show ¬ nI 8 = 4 by decide), if_neg (show ¬ nI 8 = 5 by decide), if_neg (show ¬ nI 8 = 6 by decide), if_neg (show ¬ nI 8 = 7 by decide), if_pos (show nI 8 = 8 from rfl), m_heavy hn m1' m2' hww (by omega), ob_some, hv, if_pos (show eO none = -1 from rfl)]
      | some l =>
        have hl := hvy_lt hv
        refine fin0 (pcv ν σ l) ?_ ?_
        · unfold mX10_count
          rw [if_neg (show ¬ nI 8 = 0 by decide), if_neg (show ¬ nI 8 = 1 by decide), if_neg (show ¬ nI 8 = 2 by decide), if_neg (show ¬ nI 8 = 3 by decide), if_neg (show ¬ nI 8 = 4 by decide), if_neg (show ¬ nI 8 = 5 by decide), if_neg (show ¬ nI 8 = 6 by decide), if_neg (show ¬ nI 8 = 7 by decide), if_pos (show nI 8 = 8 from rfl), c_full hn c1 c2 hww (by omega), ob_some, hv, show mX2_percentOf N 36 (eO (some l)) I = _ from c_pct hn c1 c2 hww (by omega) hl, ob_some]
        · rw [bM, if_neg (show ¬ nI 8 = 0 by decide), if_neg (show ¬ nI 8 = 1 by decide), if_neg (show ¬ nI 8 = 2 by decide), if_neg (show ¬ nI 8 = 3 by decide), if_neg (show ¬ nI 8 = 4 by decide), if_neg (show ¬ nI 8 = 5 by decide), if_neg (show ¬ nI 8 = 6 by decide), if_neg (show ¬ nI 8 = 7 by decide), if_pos (show nI 8 = 8 from rfl), m_heavy hn m1' m2' hww (by omega), ob_some, hv, if_neg (show ¬ eO (some l) = -1 from nI_m1 (by omega)), ob_some, show mX11_loadAt N (eO (some l)) (upd2 I 310 0 0) = _ from m_load hn m1' m2' hww (by omega) hl, ob_some]
    · obtain ⟨b, m, I9, hW, e9, f9, cs9⟩ := c_worst (N := N) hn g c1 c2 (by omega)
      have h9 := ask_ref hP f9 (by simp [sc])
      obtain ⟨I8, f8, e80, e81⟩ := m_worst (N := N) hn g (h9.2.1.sm s0) (h9.2.2.c (u2_c (by decide)) : MS ν 317 0 σ (upd2 I9 310 0 0)) hN hW
      refine fin (eO b) I9 I8 ?_ ?_ (by rw [f8.2.1 0 (by simp), u2_at]) (ask_fin hP mv f9 (by simp [sc]) cs9 (s0.tr (Sm.fs f8)))
      · unfold mX10_count
        rw [if_neg (show ¬ nI 9 = 0 by decide), if_neg (show ¬ nI 9 = 1 by decide), if_neg (show ¬ nI 9 = 2 by decide), if_neg (show ¬ nI 9 = 3 by decide), if_neg (show ¬ nI 9 = 4 by decide), if_neg (show ¬ nI 9 = 5 by decide), if_neg (show ¬ nI 9 = 6 by decide), if_neg (show ¬ nI 9 = 7 by decide), if_neg (show ¬ nI 9 = 8 by decide), if_pos (show nI 9 = 9 from rfl), e9, ob_some]
      · rw [bM, if_neg (show ¬ nI 9 = 0 by decide), if_neg (show ¬ nI 9 = 1 by decide), if_neg (show ¬ nI 9 = 2 by decide), if_neg (show ¬ nI 9 = 3 by decide), if_neg (show ¬ nI 9 = 4 by decide), if_neg (show ¬ nI 9 = 5 by decide), if_neg (show ¬ nI 9 = 6 by decide), if_neg (show ¬ nI 9 = 7 by decide), if_neg (show ¬ nI 9 = 8 by decide), if_pos (show nI 9 = 9 from rfl), e80, ob_some]
    · obtain ⟨b, m, I9, hW, e9, f9, cs9⟩ := c_worst (N := N) hn g c1 c2 (by omega)
      have h9 := ask_ref hP f9 (by simp [sc])
      obtain ⟨I10, e10, f10, cs10⟩ : ∃ I10, mX10_lostBy N (eO b) I9 = some (nI m, I10) ∧ Fr [30, 31, 32, 33, 36, 37, 38, 39, 40, 41] I9 I10 ∧ CS ν 36 σ I10 := by
        rcases Wv_fin hW with ⟨rfl, rfl⟩ | ⟨l, rfl, hl, hlo⟩
        · refine ⟨I9, ?_, Fr.rf, cs9⟩
          unfold mX10_lostBy
          rw [if_pos (show eO none = -1 from rfl)]
          rfl
        · obtain ⟨x, I10, hlo', e, f, cs⟩ := c_lost (N := N) hn g h9.1 cs9 (by omega) hl
          obtain rfl := lo_one hn hlo hlo'
          exact ⟨I10, e, f, cs⟩
      have f11 := f9.tr f10
      have h11 := ask_ref hP f11 (by simp [sc])
      obtain ⟨I8, f8, e80, e81⟩ := m_worst (N := N) hn g (h11.2.1.sm s0) (h11.2.2.c (u2_c (by decide)) : MS ν 317 0 σ (upd2 I10 310 0 0)) hN hW
      refine fin (nI m) I10 I8 ?_ ?_ (by rw [f8.2.1 0 (by simp), u2_at]) (ask_fin hP mv f11 (by simp [sc]) cs10 (s0.tr (Sm.fs f8)))
      · unfold mX10_count
        rw [if_neg (show ¬ nI 10 = 0 by decide), if_neg (show ¬ nI 10 = 1 by decide), if_neg (show ¬ nI 10 = 2 by decide), if_neg (show ¬ nI 10 = 3 by decide), if_neg (show ¬ nI 10 = 4 by decide), if_neg (show ¬ nI 10 = 5 by decide), if_neg (show ¬ nI 10 = 6 by decide), if_neg (show ¬ nI 10 = 7 by decide), if_neg (show ¬ nI 10 = 8 by decide), if_neg (show ¬ nI 10 = 9 by decide), if_pos (show nI 10 = 10 from rfl), e9, ob_some]
        dsimp only
        rw [e10, ob_some]
      · rw [bM, if_neg (show ¬ nI 10 = 0 by decide), if_neg (show ¬ nI 10 = 1 by decide), if_neg (show ¬ nI 10 = 2 by decide), if_neg (show ¬ nI 10 = 3 by decide), if_neg (show ¬ nI 10 = 4 by decide), if_neg (show ¬ nI 10 = 5 by decide), if_neg (show ¬ nI 10 = 6 by decide), if_neg (show ¬ nI 10 = 7 by decide), if_neg (show ¬ nI 10 = 8 by decide), if_neg (show ¬ nI 10 = 9 by decide), if_pos (show nI 10 = 10 from rfl), e81, ob_some]
    · obtain ⟨f, r1, r2, r3, r4⟩ := ac.2.2.1
      refine fin0 (nI ks.length) ?_ ?_
      · unfold mX10_count
        rw [if_neg (show ¬ nI 11 = 0 by decide), if_neg (show ¬ nI 11 = 1 by decide), if_neg (show ¬ nI 11 = 2 by decide), if_neg (show ¬ nI 11 = 3 by decide), if_neg (show ¬ nI 11 = 4 by decide), if_neg (show ¬ nI 11 = 5 by decide), if_neg (show ¬ nI 11 = 6 by decide), if_neg (show ¬ nI 11 = 7 by decide), if_neg (show ¬ nI 11 = 8 by decide), if_neg (show ¬ nI 11 = 9 by decide), if_neg (show ¬ nI 11 = 10 by decide), if_pos (show nI 11 = 11 from rfl), r3]
      · rw [bM, if_neg (show ¬ nI 11 = 0 by decide), if_neg (show ¬ nI 11 = 1 by decide), if_neg (show ¬ nI 11 = 2 by decide), if_neg (show ¬ nI 11 = 3 by decide), if_neg (show ¬ nI 11 = 4 by decide), if_neg (show ¬ nI 11 = 5 by decide), if_neg (show ¬ nI 11 = 6 by decide), if_neg (show ¬ nI 11 = 7 by decide), if_neg (show ¬ nI 11 = 8 by decide), if_neg (show ¬ nI 11 = 9 by decide), if_neg (show ¬ nI 11 = 10 by decide), if_pos (show nI 11 = 11 from rfl), kp _ _ (by omega), ac.2.2.2.1]
    · refine fin0 (nI vs.length) ?_ ?_
      · unfold mX10_count
        rw [if_neg (show ¬ nI 12 = 0 by decide), if_neg (show ¬ nI 12 = 1 by decide), if_neg (show ¬ nI 12 = 2 by decide), if_neg (show ¬ nI 12 = 3 by decide), if_neg (show ¬ nI 12 = 4 by decide), if_neg (show ¬ nI 12 = 5 by decide), if_neg (show ¬ nI 12 = 6 by decide), if_neg (show ¬ nI 12 = 7 by decide), if_neg (show ¬ nI 12 = 8 by decide), if_neg (show ¬ nI 12 = 9 by decide), if_neg (show ¬ nI 12 = 10 by decide), if_neg (show ¬ nI 12 = 11 by decide), if_pos (show nI 12 = 12 from rfl), sg.2.2.1]
      · rw [bM, if_neg (show ¬ nI 12 = 0 by decide), if_neg (show ¬ nI 12 = 1 by decide), if_neg (show ¬ nI 12 = 2 by decide), if_neg (show ¬ nI 12 = 3 by decide), if_neg (show ¬ nI 12 = 4 by decide), if_neg (show ¬ nI 12 = 5 by decide), if_neg (show ¬ nI 12 = 6 by decide), if_neg (show ¬ nI 12 = 7 by decide), if_neg (show ¬ nI 12 = 8 by decide), if_neg (show ¬ nI 12 = 9 by decide), if_neg (show ¬ nI 12 = 10 by decide), if_neg (show ¬ nI 12 = 11 by decide), if_pos (show nI 12 = 12 from rfl), kp _ _ (by omega), sg.2.2.2.1]
    · obtain ⟨n, t1, t2, t3, t4⟩ := tp
      refine fin0 (nI n) ?_ ?_
      · unfold mX10_count
        rw [if_neg (show ¬ nI 13 = 0 by decide), if_neg (show ¬ nI 13 = 1 by decide), if_neg (show ¬ nI 13 = 2 by decide), if_neg (show ¬ nI 13 = 3 by decide), if_neg (show ¬ nI 13 = 4 by decide), if_neg (show ¬ nI 13 = 5 by decide), if_neg (show ¬ nI 13 = 6 by decide), if_neg (show ¬ nI 13 = 7 by decide), if_neg (show ¬ nI 13 = 8 by decide), if_neg (show ¬ nI 13 = 9 by decide), if_neg (show ¬ nI 13 = 10 by decide), if_neg (show ¬ nI 13 = 11 by decide), if_neg (show ¬ nI 13 = 12 by decide), if_pos (show nI 13 = 13 from rfl), t2]
      · rw [bM, if_neg (show ¬ nI 13 = 0 by decide), if_neg (show ¬ nI 13 = 1 by decide), if_neg (show ¬ nI 13 = 2 by decide), if_neg (show ¬ nI 13 = 3 by decide), if_neg (show ¬ nI 13 = 4 by decide), if_neg (show ¬ nI 13 = 5 by decide), if_neg (show ¬ nI 13 = 6 by decide), if_neg (show ¬ nI 13 = 7 by decide), if_neg (show ¬ nI 13 = 8 by decide), if_neg (show ¬ nI 13 = 9 by decide), if_neg (show ¬ nI 13 = 10 by decide), if_neg (show ¬ nI 13 = 11 by decide), if_neg (show ¬ nI 13 = 12 by decide), if_pos (show nI 13 = 13 from rfl), kp _ _ (by omega), t3]
    · refine fin0 (I 0 3) ?_ ?_
      · unfold mX10_count
        rw [if_neg (show ¬ nI 14 = 0 by decide), if_neg (show ¬ nI 14 = 1 by decide), if_neg (show ¬ nI 14 = 2 by decide), if_neg (show ¬ nI 14 = 3 by decide), if_neg (show ¬ nI 14 = 4 by decide), if_neg (show ¬ nI 14 = 5 by decide), if_neg (show ¬ nI 14 = 6 by decide), if_neg (show ¬ nI 14 = 7 by decide), if_neg (show ¬ nI 14 = 8 by decide), if_neg (show ¬ nI 14 = 9 by decide), if_neg (show ¬ nI 14 = 10 by decide), if_neg (show ¬ nI 14 = 11 by decide), if_neg (show ¬ nI 14 = 12 by decide), if_neg (show ¬ nI 14 = 13 by decide), if_pos (show nI 14 = 14 from rfl)]
      · rw [bM, if_neg (show ¬ nI 14 = 0 by decide), if_neg (show ¬ nI 14 = 1 by decide), if_neg (show ¬ nI 14 = 2 by decide), if_neg (show ¬ nI 14 = 3 by decide), if_neg (show ¬ nI 14 = 4 by decide), if_neg (show ¬ nI 14 = 5 by decide), if_neg (show ¬ nI 14 = 6 by decide), if_neg (show ¬ nI 14 = 7 by decide), if_neg (show ¬ nI 14 = 8 by decide), if_neg (show ¬ nI 14 = 9 by decide), if_neg (show ¬ nI 14 = 10 by decide), if_neg (show ¬ nI 14 = 11 by decide), if_neg (show ¬ nI 14 = 12 by decide), if_neg (show ¬ nI 14 = 13 by decide), show nI 14 - 14 = nI 0 from rfl, ck_n (by omega) (by decide), nI_clamp (by omega), kp _ _ (by omega), ct.2.1]
    · refine fin0 (I 0 4) ?_ ?_
      · unfold mX10_count
        rw [if_neg (show ¬ nI 15 = 0 by decide), if_neg (show ¬ nI 15 = 1 by decide), if_neg (show ¬ nI 15 = 2 by decide), if_neg (show ¬ nI 15 = 3 by decide), if_neg (show ¬ nI 15 = 4 by decide), if_neg (show ¬ nI 15 = 5 by decide), if_neg (show ¬ nI 15 = 6 by decide), if_neg (show ¬ nI 15 = 7 by decide), if_neg (show ¬ nI 15 = 8 by decide), if_neg (show ¬ nI 15 = 9 by decide), if_neg (show ¬ nI 15 = 10 by decide), if_neg (show ¬ nI 15 = 11 by decide), if_neg (show ¬ nI 15 = 12 by decide), if_neg (show ¬ nI 15 = 13 by decide), if_neg (show ¬ nI 15 = 14 by decide), if_pos (show nI 15 = 15 from rfl)]
      · rw [bM, if_neg (show ¬ nI 15 = 0 by decide), if_neg (show ¬ nI 15 = 1 by decide), if_neg (show ¬ nI 15 = 2 by decide), if_neg (show ¬ nI 15 = 3 by decide), if_neg (show ¬ nI 15 = 4 by decide), if_neg (show ¬ nI 15 = 5 by decide), if_neg (show ¬ nI 15 = 6 by decide), if_neg (show ¬ nI 15 = 7 by decide), if_neg (show ¬ nI 15 = 8 by decide), if_neg (show ¬ nI 15 = 9 by decide), if_neg (show ¬ nI 15 = 10 by decide), if_neg (show ¬ nI 15 = 11 by decide), if_neg (show ¬ nI 15 = 12 by decide), if_neg (show ¬ nI 15 = 13 by decide), show nI 15 - 14 = nI 1 from rfl, ck_n (by omega) (by decide), nI_clamp (by omega), kp _ _ (by omega), ct.2.2.1]
    · refine fin0 (I 0 5) ?_ ?_
      · unfold mX10_count
        rw [if_neg (show ¬ nI 16 = 0 by decide), if_neg (show ¬ nI 16 = 1 by decide), if_neg (show ¬ nI 16 = 2 by decide), if_neg (show ¬ nI 16 = 3 by decide), if_neg (show ¬ nI 16 = 4 by decide), if_neg (show ¬ nI 16 = 5 by decide), if_neg (show ¬ nI 16 = 6 by decide), if_neg (show ¬ nI 16 = 7 by decide), if_neg (show ¬ nI 16 = 8 by decide), if_neg (show ¬ nI 16 = 9 by decide), if_neg (show ¬ nI 16 = 10 by decide), if_neg (show ¬ nI 16 = 11 by decide), if_neg (show ¬ nI 16 = 12 by decide), if_neg (show ¬ nI 16 = 13 by decide), if_neg (show ¬ nI 16 = 14 by decide), if_neg (show ¬ nI 16 = 15 by decide), if_pos (show nI 16 = 16 from rfl)]
      · rw [bM, if_neg (show ¬ nI 16 = 0 by decide), if_neg (show ¬ nI 16 = 1 by decide), if_neg (show ¬ nI 16 = 2 by decide), if_neg (show ¬ nI 16 = 3 by decide), if_neg (show ¬ nI 16 = 4 by decide), if_neg (show ¬ nI 16 = 5 by decide), if_neg (show ¬ nI 16 = 6 by decide), if_neg (show ¬ nI 16 = 7 by decide), if_neg (show ¬ nI 16 = 8 by decide), if_neg (show ¬ nI 16 = 9 by decide), if_neg (show ¬ nI 16 = 10 by decide), if_neg (show ¬ nI 16 = 11 by decide), if_neg (show ¬ nI 16 = 12 by decide), if_neg (show ¬ nI 16 = 13 by decide), show nI 16 - 14 = nI 2 from rfl, ck_n (by omega) (by decide), nI_clamp (by omega), kp _ _ (by omega), ct.2.2.2]
  · refine ⟨.inr xnN, I, 0, upd2 (upd2 I 310 0 0) 310 0 1, ?_, (fun E h => by cases h; rfl), ?_, u2_at, (fun v h => by cases h), hInv.sm s0.u0⟩
    · have ne : ∀ k, k ≤ 16 → ¬ a1 = nI k := fun k hk => hno k (by omega) hk
      unfold mX10_count
      rw [if_neg (show ¬ a1 = 0 from ne 0 (by omega)), if_neg (show ¬ a1 = 1 from ne 1 (by omega)), if_neg (show ¬ a1 = 2 from ne 2 (by omega)), if_neg (show ¬ a1 = 3 from ne 3 (by omega)), if_neg (show ¬ a1 = 4 from ne 4 (by omega)), if_neg (show ¬ a1 = 5 from ne 5 (by omega)), if_neg (show ¬ a1 = 6 from ne 6 (by omega)), if_neg (show ¬ a1 = 7 from ne 7 (by omega)), if_neg (show ¬ a1 = 8 from ne 8 (by omega)), if_neg (show ¬ a1 = 9 from ne 9 (by omega)), if_neg (show ¬ a1 = 10 from ne 10 (by omega)), if_neg (show ¬ a1 = 11 from ne 11 (by omega)), if_neg (show ¬ a1 = 12 from ne 12 (by omega)), if_neg (show ¬ a1 = 13 from ne 13 (by omega)), if_neg (show ¬ a1 = 14 from ne 14 (by omega)), if_neg (show ¬ a1 = 15 from ne 15 (by omega)), if_neg (show ¬ a1 = 16 from ne 16 (by omega))]
    · unfold mX11_count
      rw [show mX11_within a1 0 16 (upd2 I 310 0 0) = some 0 from eW _, ob_some, m_right0 u2_at (by decide), ob_some]
      dsimp only
      rw [if_pos rfl]
end Steps11
