/-! what is reached: the class by hops, the reference until nothing more comes -/
def rch (ν : Nt) (go : Nat → Bool) (a : Nat) : Nat → Nat → Bool
  | 0, n => decide (n = a)
  | k + 1, n => rch ν go a k n || (List.range ν.ln).any (fun l => (go l && decide (ν.L l 1 = n)) && rch ν go a k (ν.L l 0))
def Rr (ν : Nt) (go : Nat → Bool) (a z : Nat) : Prop := ∃ p, chn ν a p z ∧ ∀ l ∈ p, go l = true
theorem snoc9 : ∀ (p : List Nat), p = [] ∨ ∃ q l, p = q ++ [l]
  | [] => Or.inl rfl
  | a :: p => by
    rcases snoc9 p with h | ⟨q, l, h⟩
    · exact Or.inr ⟨[], a, by rw [h]; rfl⟩
    · exact Or.inr ⟨a :: q, l, by rw [h]; rfl⟩
section Reach
variable {ν : Nt} {go : Nat → Bool} {σ : St} {N u a z h : Nat} {I : gI}
theorem cbv2 {l m : Nat} (hl : l < 32) (hm : m < 32) (x y : Int32) : ((ushr x (nI l)) &&& (ushr y (nI m))) &&& 1 = if (bt x l && bt y m) = true then 1 else 0 := by
  apply b_ext
  intro i hi
  rw [b_and, b_and, b_1, show ushr x (nI l) = (x.toUInt32 >>> ((nI l).toUInt32 &&& Int32.toUInt32 31)).toInt32 from rfl, show ushr y (nI m) = (y.toUInt32 >>> ((nI m).toUInt32 &&& Int32.toUInt32 31)).toInt32 from rfl, b_ushr l hl, b_ushr m hm]
  by_cases h0 : i = 0
  · subst h0
    cases h : bt x l <;> cases h' : bt y m <;> simp [h, h', b_0, b_1]
  · cases h : bt x l <;> cases h' : bt y m <;> simp [h0, b_0, b_1]
theorem rch_mono {n : Nat} : ∀ {k j : Nat}, k ≤ j → rch ν go a k n = true → rch ν go a j n = true
  | k, 0, hkj, h => by
    have : k = 0 := by omega
    subst this; exact h
  | k, j + 1, hkj, h => by
    by_cases e : k = j + 1
    · subst e; exact h
    · rw [rch, rch_mono (k := k) (j := j) (by omega) h]; rfl
theorem rch_sound : ∀ {k n : Nat}, rch ν go a k n = true → ∃ p, chn ν a p n ∧ (∀ l ∈ p, go l = true) ∧ p.length ≤ k
  | 0, n, h => by
    rw [rch, decide_eq_true_eq] at h
    exact ⟨[], h.symm, fun l hl => (by cases hl), Nat.le_refl _⟩
  | k + 1, n, h => by
    rw [rch, Bool.or_eq_true] at h
    rcases h with h | h
    · obtain ⟨p, h1, h2, h3⟩ := rch_sound h
      exact ⟨p, h1, h2, by omega⟩
    · rw [List.any_eq_true] at h
      obtain ⟨l, hl, h⟩ := h
      rw [List.mem_range] at hl
      rw [Bool.and_eq_true, Bool.and_eq_true, decide_eq_true_eq] at h
      obtain ⟨p, h1, h2, h3⟩ := rch_sound h.2
      refine ⟨p ++ [l], ?_, fun x hx => ?_, by simp; omega⟩
      · have := chn_snoc h1 hl rfl
        rwa [h.1.2] at this
      · rcases List.mem_append.mp hx with hx | hx
        · exact h2 x hx
        · rw [List.mem_singleton] at hx; rw [hx]; exact h.1.1
theorem rch_compl : ∀ {k n : Nat} {p : List Nat}, chn ν a p n → (∀ l ∈ p, go l = true) → p.length ≤ k → rch ν go a k n = true
  | 0, n, p, h1, h2, h3 => by
    have : p = [] := List.length_eq_zero_iff.mp (by omega)
    subst this
    cases h1
    rw [rch]; simp
  | k + 1, n, p, h1, h2, h3 => by
    rcases snoc9 p with rfl | ⟨q, l, rfl⟩
    · exact rch_mono (k := 0) (Nat.zero_le _) (rch_compl (k := 0) h1 h2 (Nat.le_refl _))
    · obtain ⟨m, h4, h5⟩ := chn_app.mp h1
      rw [rch, Bool.or_eq_true]
      refine Or.inr (List.any_eq_true.mpr ⟨l, List.mem_range.mpr h5.1, ?_⟩)
      have hc : ν.L l 1 = n := h5.2.2
      rw [Bool.and_eq_true, Bool.and_eq_true, decide_eq_true_eq]
      refine ⟨⟨h2 l (by simp), hc⟩, ?_⟩
      rw [h5.2.1]
      exact rch_compl (k := k) h4 (fun x hx => h2 x (by simp [hx])) (by simp at h3; omega)
theorem rch_isP : rch ν go a h z = true ↔ ∃ p, IsP ν go a z h p := by
  constructor
  · intro h
    obtain ⟨p, h1, h2, h3⟩ := rch_sound h
    obtain ⟨q, hs, hc, hd⟩ := chn_simple h1
    have := hs.length_le
    exact ⟨q, hc, hd, by omega, fun l hl => h2 l (hs.subset hl)⟩
  · intro ⟨p, hp⟩
    exact rch_compl hp.1 hp.2.2.2 hp.2.2.1
theorem Rr_7 (hn : WfN ν) (ha : a < ν.nn) : Rr ν go a z ↔ rch ν go a 7 z = true := by
  constructor
  · intro ⟨p, h1, h2⟩
    obtain ⟨q, -, hq⟩ := way_of_walk hn ha h1 h2
    exact rch_isP.mpr ⟨q, hq⟩
  · intro h
    obtain ⟨p, h1, h2, -⟩ := rch_sound h
    exact ⟨p, h1, h2⟩
theorem rch_fix (hn : WfN ν) {k : Nat} (hk : ∀ n, n < 8 → rch ν go a (k + 1) n = rch ν go a k n) : ∀ j, k ≤ j → ∀ n, n < 8 → rch ν go a j n = rch ν go a k n := by
  intro j hj
  induction j with
  | zero => intro n hn'; rw [show k = 0 by omega]
  | succ j ih =>
    intro n hn'
    by_cases e : k = j + 1
    · rw [e]
    · have ih' := ih (by omega)
      have e1 : rch ν go a (j + 1) n = (rch ν go a j n || (List.range ν.ln).any fun l => go l && decide (ν.L l 1 = n) && rch ν go a j (ν.L l 0)) := rfl
      have e2 : rch ν go a (k + 1) n = (rch ν go a k n || (List.range ν.ln).any fun l => go l && decide (ν.L l 1 = n) && rch ν go a k (ν.L l 0)) := rfl
      rw [← hk n hn', e1, e2, ih' n hn']
      congr 1
      apply Bool.eq_iff_iff.mpr
      rw [List.any_eq_true, List.any_eq_true]
      have h8 := hn.2.1
      constructor
      · intro ⟨l, hl, h⟩
        have := (hn.2.2.2.2.1 l (List.mem_range.mp hl)).1
        exact ⟨l, hl, by rw [← ih' _ (by omega)]; exact h⟩
      · intro ⟨l, hl, h⟩
        have := (hn.2.2.2.2.1 l (List.mem_range.mp hl)).1
        exact ⟨l, hl, by rw [ih' _ (by omega)]; exact h⟩
theorem any_succ (f : Nat → Bool) (k : Nat) : (List.range (k + 1)).any f = ((List.range k).any f || f k) := by
  rw [List.range_succ, List.any_append]; simp
theorem c_r31 (hn : WfN ν) (hI : NetC ν I) {x k3 k4 k6 v : Int32} {r : Nat} (hgo : ∀ l, l < ν.ln → go l = bt x l) (hN : 100 ≤ N) (hv : ∀ n, n < 32 → bt v n = rch ν go a r n) : ∃ y, mX6_reaches_31 x k3 k4 k6 v I N v 0 = some y ∧ ∀ n, n < 32 → bt y n = rch ν go a (r + 1) n := by
  have hln := hn.2.2.1
  have h8 := hn.2.1
  obtain ⟨y, hP, e⟩ := loopP (F := fun n s i => mX6_reaches_31 x k3 k4 k6 v I n s i) (b := ν.ln) (out := id)
    (P := fun k s => ∀ n, n < 32 → bt s n = (rch ν go a r n || (List.range k).any (fun l => (go l && decide (ν.L l 1 = n)) && rch ν go a r (ν.L l 0))))
    (fun n s _ => by
      show mX6_reaches_31 x k3 k4 k6 v I (n + 1) s (nI ν.ln) = some s
      rw [mX6_reaches_31, hI.2.1, if_pos (nI_le (Nat.le_refl _) (by omega))])
    (fun n k s hk hP => by
      have hL := hn.2.2.2.2.1 k hk
      have key : mX6_reaches_31 x k3 k4 k6 v I (n + 1) s (nI k) = if (go k && rch ν go a r (ν.L k 0)) = true then mX6_reaches_31 x k3 k4 k6 v I n (s ||| ((1 : Int32) <<< (nI (ν.L k 1) &&& 31))) (nI (k + 1)) else mX6_reaches_31 x k3 k4 k6 v I n s (nI (k + 1)) := by
        rw [mX6_reaches_31, hI.2.1, if_neg (nI_ge hk (by omega)), ck_n (by omega) (by decide), nI_clamp (by omega), show I 3 k = nI (ν.L k 0) from hI.2.2.2.1 k hk 0 (by decide), show I 4 k = nI (ν.L k 1) from hI.2.2.2.1 k hk 1 (by decide), nm_n, cbv2 (by omega) (by omega), hv _ (by omega), ← hgo k hk, nI_1]
        cases hb : (go k && rch ν go a r (ν.L k 0)) with
        | true => rw [if_pos (show true = true from rfl), if_neg (show ¬ (1 : Int32) = 0 by decide), if_pos rfl]
        | false => rw [if_neg (show ¬ false = true by decide), if_pos (show (0 : Int32) = 0 from rfl), if_neg (by decide)]
      cases hb : (go k && rch ν go a r (ν.L k 0)) with
      | true =>
        refine ⟨s ||| ((1 : Int32) <<< (nI (ν.L k 1) &&& 31)), by show mX6_reaches_31 x k3 k4 k6 v I (n + 1) s (nI k) = _; rw [key, hb, if_pos rfl], fun m hm => ?_⟩
        rw [b_or, b_sh1 (by omega) hm, hP m hm, any_succ]
        rw [Bool.and_eq_true] at hb
        rw [hb.1, hb.2, Bool.true_and, Bool.and_true, Bool.or_assoc]
        congr 2
        by_cases e : m = ν.L k 1
        · subst e; simp
        · have : ¬ ν.L k 1 = m := fun h => e h.symm
          simp [e, this]
      | false =>
        refine ⟨s, by show mX6_reaches_31 x k3 k4 k6 v I (n + 1) s (nI k) = _; rw [key, hb, if_neg (by decide)], fun m hm => ?_⟩
        rw [hP m hm, any_succ]
        have : ((go k && decide (ν.L k 1 = m)) && rch ν go a r (ν.L k 0)) = false := by
          cases h1 : go k with
          | false => rfl
          | true => rw [h1, Bool.true_and] at hb; rw [hb, Bool.and_false]
        rw [this, Bool.or_false])
    N 0 v (Nat.zero_le _) (by omega) (fun n hn' => by rw [hv n hn']; simp)
  exact ⟨y, e, fun n hn' => by rw [hP n hn', rch]⟩
theorem c_r8 (hn : WfN ν) (hI : NetC ν I) {x : Int32} (hz : z < 8) (hh : h ≤ 7) (hgo : ∀ l, l < ν.ln → go l = bt x l) (hN : 100 ≤ N) : ∀ (m k fu : Nat) (v : Int32), k + m = h → m < fu → (∀ n, n < 32 → bt v n = rch ν go a k n) → ∃ y, mX6_reaches_8 N x (nI z) (nI h) I fu v (nI k) = some y ∧ bt y z = rch ν go a h z
  | 0, k, fu + 1, v, hk, hf, hv => by
    refine ⟨v, ?_, by rw [hv z (by omega), show k = h by omega]⟩
    rw [mX6_reaches_8, if_pos (nI_le (by omega) (by omega))]
  | m + 1, k, fu + 1, v, hk, hf, hv => by
    have e1 : mX6_reaches_8 N x (nI z) (nI h) I (fu + 1) v (nI k) = if bt v z = false then (Option.bind (mX6_reaches_31 x (nI z) (nI h) (nI k) v I N v 0) (fun y8 => if y8 = v then (some y8) else (mX6_reaches_8 N x (nI z) (nI h) I fu y8 (nI (k + 1))))) else some v := by
      rw [mX6_reaches_8, if_neg (nI_ge (by omega) (by omega)), nI_1]
      by_cases hb : bt v z = false
      · rw [if_pos ((cb0 (by omega) _).mpr hb), if_pos hb]
      · rw [if_neg (fun h => hb ((cb0 (by omega) _).mp h)), if_neg hb]
    by_cases hb : bt v z = false
    · obtain ⟨y, ey, hy⟩ := c_r31 (N := N) (k3 := nI z) (k4 := nI h) (k6 := nI k) hn hI hgo hN hv
      rw [e1, if_pos hb, ey, ob_some]
      by_cases hyv : y = v
      · rw [if_pos hyv]
        refine ⟨y, rfl, ?_⟩
        have hfix := rch_fix (ν := ν) (go := go) (a := a) (k := k) hn (fun n hn' => by rw [← hy n (by omega), hyv, hv n (by omega)]) h (by omega) z hz
        rw [hyv, hv z (by omega), hfix]
      · rw [if_neg hyv]
        exact c_r8 hn hI hz hh hgo hN m (k + 1) fu y (by omega) (by omega) hy
    · refine ⟨v, by rw [e1, if_neg hb], ?_⟩
      have hb' : bt v z = true := by cases h : bt v z with | true => rfl | false => exact absurd h hb
      rw [hb']
      rw [hv z (by omega)] at hb'
      exact (rch_mono (by omega) hb').symm
theorem c_reach (hn : WfN ν) (hI : NetC ν I) {x : Int32} (ha : a < 8) (hz : z < 8) (hh : h ≤ 7) (hgo : ∀ l, l < ν.ln → go l = bt x l) (hN : 100 ≤ N) : mX6_reaches N x (nI a) (nI z) (nI h) I = some (if rch ν go a h z = true then 1 else 0) := by
  obtain ⟨y, ey, hy⟩ := c_r8 (N := N) (a := a) hn hI hz hh hgo hN h 0 N ((1 : Int32) <<< (nI a &&& 31)) (by omega) (by omega) (fun n hn' => by rw [b_sh1 (by omega) hn']; rfl)
  unfold mX6_reaches
  rw [show mX6_reaches_8 N x (nI z) (nI h) I N ((1 : Int32) <<< (nI a &&& 31)) 0 = some y from ey, ob_some]
  cases hb : rch ν go a h z with
  | true => rw [if_neg (fun e => by rw [cb0 (by omega), hy, hb] at e; cases e), if_pos rfl]
  | false => rw [if_pos (by rw [cb0 (by omega), hy, hb]), if_neg (by decide)]
/-! the reference -/
theorem m_d22 (hn : WfN ν) (hI : NetM ν I) (hs : MS ν 317 0 σ I) (hN : 100 ≤ N) {k2 k3 k5 v : Int32} (hgo : ∀ l, l < ν.ln → go l = (decide (¬ nI l = k3) && bt σ.up l)) (hv : ∀ n, n < 32 → bt v n = true → Rr ν go a n) : ∃ y, mX11_doesReach_22 k2 k3 k5 I N v 0 = some y ∧ (∀ n, n < 32 → bt v n = true → bt y n = true) ∧ (∀ l, l < ν.ln → go l = true → bt v (ν.L l 0) = true → bt y (ν.L l 1) = true) ∧ (∀ n, n < 32 → bt y n = true → Rr ν go a n) := by
  have hln := hn.2.2.1
  have h8 := hn.2.1
  obtain ⟨y, hP, e⟩ := loopP (F := fun n s i => mX11_doesReach_22 k2 k3 k5 I n s i) (b := ν.ln) (out := id)
    (P := fun k s => (∀ n, n < 32 → bt v n = true → bt s n = true) ∧ (∀ l, l < k → go l = true → bt v (ν.L l 0) = true → bt s (ν.L l 1) = true) ∧ (∀ n, n < 32 → bt s n = true → Rr ν go a n))
    (fun n s _ => by
      show mX11_doesReach_22 k2 k3 k5 I (n + 1) s (nI ν.ln) = some s
      rw [mX11_doesReach_22, hI.2.1, if_pos (nI_le (Nat.le_refl _) (by omega))])
    (fun n k s hk hP => by
      have hL := hn.2.2.2.2.1 k hk
      have key : mX11_doesReach_22 k2 k3 k5 I (n + 1) s (nI k) = if go k = true ∧ bt s (ν.L k 0) = true then mX11_doesReach_22 k2 k3 k5 I n (s ||| ((1 : Int32) <<< (nI (ν.L k 1) &&& 31))) (nI (k + 1)) else mX11_doesReach_22 k2 k3 k5 I n s (nI (k + 1)) := by
        rw [mX11_doesReach_22, hI.2.1, if_neg (nI_ge hk (by omega)), nI_1, hgo k hk]
        by_cases h1 : nI k = k3
        · rw [if_pos h1, if_neg (fun h => by simp [h1] at h)]
        · rw [if_neg h1, show mX11_isUp 0 (nI k) I = _ from m_up (b := 0) hs (by omega) (by omega), ob_some, n5', show (1 : Int32) = nI 1 from rfl, nI_add, ck_n (by omega) (by decide), ck_n (by omega) (by decide), nI_clamp (by omega), nI_clamp (by omega), show I 313 (5 * k) = nI (ν.L k 0) from hI.2.2.2.1 k hk 0 (by decide), show I 313 (5 * k + 1) = nI (ν.L k 1) from hI.2.2.2.1 k hk 1 (by decide), nm_n, ← show (1 : Int32) = nI 1 from rfl]
          cases h2 : bt σ.up k with
          | false => rw [if_neg (show ¬ false = true by decide), if_pos (show (0 : Int32) = 0 from rfl), if_neg (fun h => by simp at h)]
          | true =>
            rw [if_pos (show true = true from rfl), if_neg (show ¬ (1 : Int32) = 0 by decide)]
            by_cases h3 : bt s (ν.L k 0) = true
            · rw [if_pos ((mb1 (by omega) _).mpr h3), if_pos ⟨by simp [h1], h3⟩]
            · rw [if_neg (fun h => h3 ((mb1 (by omega) _).mp h)), if_neg (fun h => h3 h.2)]
      by_cases hc : go k = true ∧ bt s (ν.L k 0) = true
      · refine ⟨s ||| ((1 : Int32) <<< (nI (ν.L k 1) &&& 31)), by show mX11_doesReach_22 k2 k3 k5 I (n + 1) s (nI k) = _; rw [key, if_pos hc], fun m hm h => by rw [b_or, hP.1 m hm h]; rfl, fun l hl h1 h2 => ?_, fun m hm h => ?_⟩
        · by_cases hlk : l = k
          · subst hlk; rw [b_or, b_sh1 (by omega) (by omega)]; simp
          · rw [b_or, hP.2.1 l (by omega) h1 h2]; rfl
        · rw [b_or, b_sh1 (by omega) hm, Bool.or_eq_true, decide_eq_true_eq] at h
          rcases h with h | rfl
          · exact hP.2.2 m hm h
          · obtain ⟨p, h1, h2⟩ := hP.2.2 _ (by omega) hc.2
            refine ⟨p ++ [k], chn_snoc h1 hk rfl, fun x hx => ?_⟩
            rcases List.mem_append.mp hx with hx | hx
            · exact h2 x hx
            · rw [List.mem_singleton] at hx; rw [hx]; exact hc.1
      · refine ⟨s, by show mX11_doesReach_22 k2 k3 k5 I (n + 1) s (nI k) = _; rw [key, if_neg hc], hP.1, fun l hl h1 h2 => ?_, hP.2.2⟩
        by_cases hlk : l = k
        · subst hlk; exact absurd ⟨h1, hP.1 _ (by omega) h2⟩ hc
        · exact hP.2.1 l (by omega) h1 h2)
    N 0 v (Nat.zero_le _) (by omega) ⟨fun n _ h => h, fun l hl => by omega, hv⟩
  exact ⟨y, e, hP.1, hP.2.1, hP.2.2⟩
theorem Rr_closed {v : Int32} (hc : ∀ l, l < ν.ln → go l = true → bt v (ν.L l 0) = true → bt v (ν.L l 1) = true) : ∀ {p : List Nat} {x n : Nat}, bt v x = true → chn ν x p n → (∀ l ∈ p, go l = true) → bt v n = true
  | [], x, n, hx, h, _ => by cases h; exact hx
  | l :: p, x, n, hx, h, hg => Rr_closed hc (p := p) (hc l h.1 (hg l List.mem_cons_self) (by rw [h.2.1]; exact hx)) h.2.2 (fun m hm => hg m (List.mem_cons_of_mem _ hm))
theorem m_d8 (hn : WfN ν) (hI : NetM ν I) (hs : MS ν 317 0 σ I) (hN : 100 ≤ N) (ha : a < ν.nn) {k2 k3 : Int32} (hgo : ∀ l, l < ν.ln → go l = (decide (¬ nI l = k3) && bt σ.up l)) : ∀ (m k fu : Nat) (v was : Int32), k + m = 8 → m + 1 < fu → bt v a = true → (∀ n, n < 32 → bt v n = true → Rr ν go a n) → (∀ n, n < 32 → rch ν go a k n = true → bt v n = true) → (was = v → ∀ l, l < ν.ln → go l = true → bt v (ν.L l 0) = true → bt v (ν.L l 1) = true) → ∃ y, mX11_doesReach_8 N k2 k3 I fu v was = some y ∧ ∀ n, n < 32 → (bt y n = true ↔ Rr ν go a n)
  | m, k, 0, v, was, hk, hf, hva, hv, hr, hw => by omega
  | m, k, fu + 1, v, was, hk, hf, hva, hv, hr, hw => by
    by_cases hwv : was = v
    · refine ⟨v, by rw [mX11_doesReach_8, if_pos hwv], fun n hn' => ⟨hv n hn', fun ⟨p, h1, h2⟩ => Rr_closed (hw hwv) hva h1 h2⟩⟩
    · obtain ⟨y, ey, y1, y2, y3⟩ := m_d22 (N := N) (k2 := k2) (k3 := k3) (k5 := v) hn hI hs hN hgo hv
      have hnn := hn.2.1
      have hcl : v = y → ∀ l, l < ν.ln → go l = true → bt y (ν.L l 0) = true → bt y (ν.L l 1) = true := fun e l hl h1 h2 => y2 l hl h1 (by rw [e]; exact h2)
      have e1 : mX11_doesReach_8 N k2 k3 I (fu + 1) v was = mX11_doesReach_8 N k2 k3 I fu y v := by rw [mX11_doesReach_8, if_neg hwv, ey, ob_some]
      have hy9 : ∀ n, n < 32 → rch ν go a (k + 1) n = true → bt y n = true := by
        intro n hn' h
        rw [rch, Bool.or_eq_true] at h
        rcases h with h | h
        · exact y1 n hn' (hr n hn' h)
        · rw [List.any_eq_true] at h
          obtain ⟨l, hl, h⟩ := h
          rw [List.mem_range] at hl
          rw [Bool.and_eq_true, Bool.and_eq_true, decide_eq_true_eq] at h
          have := (hn.2.2.2.2.1 l hl).1
          rw [← h.1.2]
          exact y2 l hl h.1.1 (hr _ (by omega) h.2)
      rw [e1]
      cases m with
      | zero =>
        have hfull : ∀ n, n < 32 → Rr ν go a n → bt v n = true := fun n hn' h => hr n hn' (rch_mono (by omega) ((Rr_7 hn ha).mp h))
        have hyv : v = y := b_ext fun i hi => by
          cases h : bt v i with
          | true => exact (y1 i hi h).symm
          | false =>
            cases h' : bt y i with
            | false => rfl
            | true => rw [hfull i hi (y3 i hi h')] at h; cases h
        obtain ⟨f, rfl⟩ : ∃ f, fu = f + 1 := ⟨fu - 1, by omega⟩
        exact ⟨y, by rw [mX11_doesReach_8, if_pos hyv], fun n hn' => ⟨y3 n hn', fun h => by rw [← hyv]; exact hfull n hn' h⟩⟩
      | succ m => exact m_d8 hn hI hs hN ha hgo m (k + 1) fu y v (by omega) (by omega) (y1 a (by omega) hva) y3 hy9 hcl
theorem m_reach (hn : WfN ν) (hI : NetM ν I) (hs : MS ν 317 0 σ I) (hN : 100 ≤ N) (ha : a < ν.nn) (hz : z < ν.nn) {k3 : Int32} (hgo : ∀ l, l < ν.ln → go l = (decide (¬ nI l = k3) && bt σ.up l)) : mX11_doesReach N (nI a) (nI z) k3 I = some (if rch ν go a 7 z = true then 1 else 0) := by
  have hnn := hn.2.1
  have hva : bt ((1 : Int32) <<< (nI a &&& 31)) a = true := by rw [b_sh1 (by omega) (by omega)]; simp
  obtain ⟨y, ey, hy⟩ := m_d8 (N := N) (a := a) (k2 := nI z) (k3 := k3) hn hI hs hN ha hgo 8 0 N ((1 : Int32) <<< (nI a &&& 31)) 0 (by omega) (by omega) hva (fun n hn' h => by
      rw [b_sh1 (by omega) hn', decide_eq_true_eq] at h
      exact ⟨[], h.symm, fun l hl => by cases hl⟩) (fun n hn' h => by rw [rch, decide_eq_true_eq] at h; rw [h]; exact hva) (fun h => by
      rw [← h, b_0] at hva; cases hva)
  have hz' := hy z (by omega)
  rw [Rr_7 hn ha] at hz'
  unfold mX11_doesReach
  rw [ey, ob_some]
  by_cases hb : rch ν go a 7 z = true
  · rw [if_pos ((mb1 (by omega) _).mpr (hz'.mpr hb)), if_pos hb]
  · rw [if_neg (fun h => hb (hz'.mp ((mb1 (by omega) _).mp h))), if_neg hb]
end Reach
