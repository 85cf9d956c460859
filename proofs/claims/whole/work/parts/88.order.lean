/-! the order in which tunnels are moved: loads, rows -/
theorem zI_addneg (a : Int) (n : Nat) : zI a + -(nI n) = zI (a - n) := by rw [← zI_nat, ← Int32.sub_eq_add_neg, zI_sub]
theorem sm_pt {t : Nat} {g : Int} : ∀ {n : Nat}, t < n → sm (fun i => if i = t then g else 0) n = g
  | n + 1, h => by
    by_cases e : t = n
    · subst e
      rw [sm, if_pos rfl, sm_congr (g := fun _ => 0) (fun k hk => if_neg (by omega)), sm_0]
      omega
    · rw [sm, if_neg (fun h => e h.symm), sm_pt (n := n) (by omega)]
      omega
section Mv0
variable {ν : Nt} {σ π : St} {N : Nat} {I : gI}
/-- who is to be moved -/
def mvP (σ π : St) (t : Nat) : Bool := decide (σ.w t ≠ []) && (decide (π.w t ≠ []) && decide (σ.w t ≠ π.w t))
/-- on a link, those of B broken, those of s moved, those of u on both ways -/
def onB (σ π : St) (B s u l i : Nat) : Bool := !B.testBit i && ((if s.testBit i = true then decide (l ∈ π.w i) else decide (l ∈ σ.w i)) || (u.testBit i && decide (l ∈ π.w i)))
def ldB (ν : Nt) (σ π : St) (B s u l : Nat) : Int := sm (fun i => if onB σ π B s u l i = true then (σ.bd i : Int) else 0) ν.tn
def bkd (ν : Nt) (σ π : St) (B s u : Nat) : Bool := (List.range ν.ln).all (fun l => decide (ldB ν σ π B s u l ≤ (ν.L l 3 : Int)))
theorem bkd_iff {B s u : Nat} : bkd ν σ π B s u = true ↔ ∀ l, l < ν.ln → ldB ν σ π B s u l ≤ (ν.L l 3 : Int) := by
  unfold bkd
  rw [List.all_eq_true]
  exact ⟨fun h l hl => of_decide_eq_true (h l (List.mem_range.mpr hl)), fun h l hl => decide_eq_true (h l (List.mem_range.mp hl))⟩
theorem ldB_bd (hn : WfN ν) (hw : WfW ν σ) {B s u l : Nat} : 0 ≤ ldB ν σ π B s u l ∧ ldB ν σ π B s u l ≤ 891 := by
  unfold ldB
  have h1 := sm_bd (n := ν.tn) (B := 99) (f := fun i => if onB σ π B s u l i = true then (σ.bd i : Int) else 0) (fun k hk => by
    have := (hw k hk).1
    show 0 ≤ (if onB σ π B s u l k = true then (σ.bd k : Int) else 0) ∧ (if onB σ π B s u l k = true then (σ.bd k : Int) else 0) ≤ (99 : Nat)
    split <;> omega)
  have h3 := hn.2.2.2.1
  have h4 : ν.tn * 99 ≤ 9 * 99 := Nat.mul_le_mul_right 99 h3
  omega
/-- one more on both its ways -/
theorem ldB_u {B s t l : Nat} (ht : t < ν.tn) (hB : B.testBit t = false) (hs : s.testBit t = false) : ldB ν σ π B s (2 ^ t) l = ldB ν σ π B s 0 l + (if l ∈ π.w t ∧ ¬ l ∈ σ.w t then (σ.bd t : Int) else 0) := by
  unfold ldB
  rw [← sm_pt (n := ν.tn) (t := t) (g := if l ∈ π.w t ∧ ¬ l ∈ σ.w t then (σ.bd t : Int) else 0) ht, ← sm_add]
  apply sm_congr
  intro i hi
  show (if onB σ π B s (2 ^ t) l i = true then (σ.bd i : Int) else 0) = (if onB σ π B s 0 l i = true then (σ.bd i : Int) else 0) + (if i = t then (if l ∈ π.w t ∧ ¬ l ∈ σ.w t then (σ.bd t : Int) else 0) else 0)
  unfold onB
  rw [Nat.testBit_two_pow, Nat.zero_testBit]
  by_cases e : t = i
  · subst e
    rw [hB, hs]
    by_cases h1 : l ∈ π.w t <;> by_cases h2 : l ∈ σ.w t <;> simp [h1, h2]
  · have e' : ¬ i = t := fun h => e h.symm
    simp [e, e']
/-- one is moved -/
theorem ldB_s {B s t l : Nat} (ht : t < ν.tn) (hB : B.testBit t = false) (hs : s.testBit t = false) : ldB ν σ π B (s ||| 2 ^ t) 0 l = ldB ν σ π B s 0 l + (if l ∈ π.w t ∧ ¬ l ∈ σ.w t then (σ.bd t : Int) else 0) - (if l ∈ σ.w t ∧ ¬ l ∈ π.w t then (σ.bd t : Int) else 0) := by
  have key : ldB ν σ π B (s ||| 2 ^ t) 0 l + (if l ∈ σ.w t ∧ ¬ l ∈ π.w t then (σ.bd t : Int) else 0) = ldB ν σ π B s 0 l + (if l ∈ π.w t ∧ ¬ l ∈ σ.w t then (σ.bd t : Int) else 0) := by
    unfold ldB
    rw [← sm_pt (n := ν.tn) (t := t) (g := if l ∈ π.w t ∧ ¬ l ∈ σ.w t then (σ.bd t : Int) else 0) ht, ← sm_add, ← sm_pt (n := ν.tn) (t := t) (g := if l ∈ σ.w t ∧ ¬ l ∈ π.w t then (σ.bd t : Int) else 0) ht, ← sm_add]
    apply sm_congr
    intro i hi
    show (if onB σ π B (s ||| 2 ^ t) 0 l i = true then (σ.bd i : Int) else 0) + (if i = t then (if l ∈ σ.w t ∧ ¬ l ∈ π.w t then (σ.bd t : Int) else 0) else 0) = (if onB σ π B s 0 l i = true then (σ.bd i : Int) else 0) + (if i = t then (if l ∈ π.w t ∧ ¬ l ∈ σ.w t then (σ.bd t : Int) else 0) else 0)
    unfold onB
    rw [Nat.testBit_or, Nat.testBit_two_pow, Nat.zero_testBit]
    by_cases e : t = i
    · subst e
      rw [hB, hs]
      by_cases h1 : l ∈ π.w t <;> by_cases h2 : l ∈ σ.w t <;> simp [h1, h2]
    · have e' : ¬ i = t := fun h => e h.symm
      simp [e, e']
  omega
theorem bkd_next (hw : WfW ν σ) {B s t : Nat} (ht : t < ν.tn) (hB : B.testBit t = false) (hs : s.testBit t = false) (h : bkd ν σ π B s (2 ^ t) = true) : bkd ν σ π B (s ||| 2 ^ t) 0 = true := by
  rw [bkd_iff] at h ⊢
  intro l hl
  have h1 := h l hl
  rw [ldB_u ht hB hs] at h1
  rw [ldB_s ht hB hs]
  have : 0 ≤ (if l ∈ σ.w t ∧ ¬ l ∈ π.w t then (σ.bd t : Int) else 0) := by split <;> omega
  omega
/-- rows in which all of A that aren't in s can be moved -/
def mvR (ν : Nt) (σ π : St) (B A : Nat) : Nat → List Nat → Prop
  | s, [] => s = A
  | s, t :: r => t < ν.tn ∧ A.testBit t = true ∧ s.testBit t = false ∧ bkd ν σ π B s (2 ^ t) = true ∧ mvR ν σ π B A (s ||| 2 ^ t) r
def Cn (ν : Nt) (σ π : St) (B A s : Nat) : Prop := ∃ r, mvR ν σ π B A s r
def okT (ν : Nt) (σ π : St) (B A s t : Nat) : Prop := t < ν.tn ∧ A.testBit t = true ∧ s.testBit t = false ∧ bkd ν σ π B s (2 ^ t) = true ∧ Cn ν σ π B A (s ||| 2 ^ t)
theorem Cn_iff {B A s : Nat} : Cn ν σ π B A s ↔ s = A ∨ ∃ t, okT ν σ π B A s t := by
  constructor
  · rintro ⟨r, h⟩
    cases r with
    | nil => exact Or.inl h
    | cons t r => exact Or.inr ⟨t, h.1, h.2.1, h.2.2.1, h.2.2.2.1, r, h.2.2.2.2⟩
  · rintro (h | ⟨t, h1, h2, h3, h4, r, h5⟩)
    · exact ⟨[], h⟩
    · exact ⟨t :: r, h1, h2, h3, h4, h5⟩
/-- the first row -/
def fR (ν : Nt) (σ π : St) (B A : Nat) : Nat → List Nat → Prop
  | s, [] => s = A
  | s, t :: r => okT ν σ π B A s t ∧ (∀ o, o < t → ¬ okT ν σ π B A s o) ∧ fR ν σ π B A (s ||| 2 ^ t) r
theorem fR_Cn {B A : Nat} : ∀ {r : List Nat} {s : Nat}, fR ν σ π B A s r → Cn ν σ π B A s
  | [], s, h => Cn_iff.mpr (Or.inl h)
  | t :: r, s, h => Cn_iff.mpr (Or.inr ⟨t, h.1⟩)
theorem sub_or {s A t : Nat} (h : sub9 s A) (ht : A.testBit t = true) : sub9 (s ||| 2 ^ t) A := fun i hi => by
  rw [Nat.testBit_or, Nat.testBit_two_pow] at hi
  by_cases e : t = i
  · subst e; exact ht
  · simp [e] at hi; exact h i hi
theorem lt_or2 {s t : Nat} (h : s.testBit t = false) : s < s ||| 2 ^ t := by
  have h1 : s ≤ s ||| 2 ^ t := sub9_le (fun i hi => by rw [Nat.testBit_or, hi]; rfl)
  rcases Nat.lt_or_ge s (s ||| 2 ^ t) with h2 | h2
  · exact h2
  · exfalso
    have e : s ||| 2 ^ t = s := by omega
    have := congrArg (fun x => x.testBit t) e
    rw [Nat.testBit_or, Nat.testBit_two_pow_self, h] at this
    simp at this
theorem pcn_or {s t : Nat} (ht : t < 16) (h : s.testBit t = false) : pcn (s ||| 2 ^ t) = pcn s + 1 := by
  rw [pcn_sum (a := s ||| 2 ^ t) (b := s) (d := 2 ^ t) (fun i _ => ?_), pcn_pow t ht]
  rw [Nat.testBit_or, Nat.testBit_two_pow]
  by_cases e : t = i
  · subst e; simp [h]
  · simp [e]
theorem fR_len (hn : ν.tn ≤ 9) {B A : Nat} : ∀ {r : List Nat} {s : Nat}, fR ν σ π B A s r → pcn s + r.length = pcn A
  | [], s, h => by rw [show s = A from h]; rfl
  | t :: r, s, h => by
    have := fR_len hn h.2.2
    rw [pcn_or (by have := h.1.1; omega) h.1.2.2.1] at this
    rw [List.length_cons]
    omega
theorem fR_one {B A : Nat} : ∀ {r r' : List Nat} {s : Nat}, fR ν σ π B A s r → fR ν σ π B A s r' → r = r'
  | [], [], s, _, _ => rfl
  | [], t :: r', s, h, h' => by
    have h1 : s = A := h
    have h2 := h'.1.2.1
    rw [← h1, h'.1.2.2.1] at h2
    cases h2
  | t :: r, [], s, h, h' => by
    have h1 : s = A := h'
    have h2 := h.1.2.1
    rw [← h1, h.1.2.2.1] at h2
    cases h2
  | t :: r, t' :: r', s, h, h' => by
    have e : t = t' := by
      rcases Nat.lt_trichotomy t t' with e | e | e
      · exact absurd h.1 (h'.2.1 t e)
      · exact e
      · exact absurd h'.1 (h.2.1 t' e)
    subst e
    rw [fR_one h.2.2 h'.2.2]
/-! the reference -/
def RM (ν : Nt) (σ π : St) (I : gI) : Prop := NetM ν I ∧ MS ν 317 0 σ I ∧ PlM ν π I
theorem RM.fr {I' : gI} (h : RM ν σ π I) (f : Fr [328] I I') : RM ν σ π I' := ⟨h.1.fr f (by simp) (by simp) (by simp), h.2.1.c (f 317 (by simp)), by
  unfold PlM
  rw [f 325 (by simp), f 326 (by simp), f 327 (by simp)]
  exact h.2.2⟩
set_option maxHeartbeats 1000000 in
theorem m_ib18 (hn : WfN ν) (h : RM ν σ π I) (hw : WfW ν σ) (hwp : WfW ν π) (hN : 100 ≤ N) {B s u l : Nat} (hl : l < ν.ln) : mX11_isBooked_18 N (nI s) (nI u) (nI B) (nI l) I N 0 0 = some (zI (ldB ν σ π B s u l)) := by
  have hln := hn.2.2.1
  have htn := hn.2.2.2.1
  obtain ⟨hI, hs, hp⟩ := h
  obtain ⟨v', hP, e⟩ := loopP (F := fun n v i => mX11_isBooked_18 N (nI s) (nI u) (nI B) (nI l) I n v i) (b := ν.tn) (out := id)
    (P := fun k v => v = zI (sm (fun i => if onB σ π B s u l i = true then (σ.bd i : Int) else 0) k))
    (fun n v _ => by
      show mX11_isBooked_18 N (nI s) (nI u) (nI B) (nI l) I (n + 1) v (nI ν.tn) = some v
      rw [mX11_isBooked_18, hI.2.2.1, if_pos (nI_le (Nat.le_refl _) (by omega))])
    (fun n k v hk hP => by
      have tb : ∀ x : Nat, ((nI x >>> (nI k &&& 31)) &&& 1) = 1 ↔ x.testBit k = true := fun x => by rw [mb1 (by omega), b_nI (by omega)]
      have q1 : I 317 (1 + k) = nI (σ.bd k) := by
        have := (hs.2 k hk).1
        rwa [Nat.zero_add] at this
      have hon : onB σ π B s u l k = (!B.testBit k && ((if s.testBit k = true then decide (l ∈ π.w k) else decide (l ∈ σ.w k)) || (u.testBit k && decide (l ∈ π.w k)))) := rfl
      refine ⟨zI (sm (fun i => if onB σ π B s u l i = true then (σ.bd i : Int) else 0) (k + 1)), ?_, rfl⟩
      show mX11_isBooked_18 N (nI s) (nI u) (nI B) (nI l) I (n + 1) v (nI k) = mX11_isBooked_18 N (nI s) (nI u) (nI B) (nI l) I n _ (nI (k + 1))
      rw [mX11_isBooked_18, hI.2.2.1, if_neg (nI_ge hk (by omega)), sm]
      by_cases hB : B.testBit k = true
      · rw [if_pos ((tb B).mpr hB), hP, nI_1, hon, hB]
        simp
      · have hB' : B.testBit k = false := by simpa using hB
        have hx4 : (if ((nI s >>> (nI k &&& 31)) &&& 1) = 1 then (ck (nI k) 9 (some (I 327 (nI k).toNatClampNeg))) else (Option.bind (mX11_wayBits N 0 (nI k) I) (fun r6 => some r6)) : Option Int32) = some (wb (if s.testBit k = true then π.w k else σ.w k)) := by
          by_cases h : s.testBit k = true
          · rw [if_pos ((tb s).mpr h), ck_n (by omega) (by decide), nI_clamp (by omega), (hp k hk).2.1, if_pos h]
          · rw [if_neg (fun e => h ((tb s).mp e)), show mX11_wayBits N 0 (nI k) I = _ from m_wb (b := 0) hn hs hw (by omega) hN hk, ob_some, if_neg h]
        have hx9 : ∃ y, (if ((nI u >>> (nI k &&& 31)) &&& 1) = 1 then (ck (nI k) 9 (some (wb (if s.testBit k = true then π.w k else σ.w k) ||| (I 327 (nI k).toNatClampNeg)))) else (some (wb (if s.testBit k = true then π.w k else σ.w k))) : Option Int32) = some y ∧ bt y l = onB σ π B s u l k := by
          have b1 : bt (wb (if s.testBit k = true then π.w k else σ.w k)) l = (if s.testBit k = true then decide (l ∈ π.w k) else decide (l ∈ σ.w k)) := by
            by_cases h : s.testBit k = true
            · rw [if_pos h, if_pos h]; exact wb_t hn hwp hk (by omega)
            · rw [if_neg h, if_neg h]; exact wb_t hn hw hk (by omega)
          by_cases h : u.testBit k = true
          · refine ⟨_, by rw [if_pos ((tb u).mpr h), ck_n (by omega) (by decide)], ?_⟩
            rw [nI_clamp (by omega), (hp k hk).2.1, b_or, b1, wb_t hn hwp hk (by omega), hon, hB', h]
            simp
          · refine ⟨_, by rw [if_neg (fun e => h ((tb u).mp e))], ?_⟩
            have h' : u.testBit k = false := by simpa using h
            rw [b1, hon, hB', h']
            simp
        obtain ⟨y, ey, hy⟩ := hx9
        rw [if_neg (fun e => hB ((tb B).mp e)), hx4, ob_some, ey, ob_some, ix1', ck_n (by omega) (by decide), nI_clamp (by omega), nm_n, q1, mbv (by omega), hy, hP, nI_1]
        by_cases ho : onB σ π B s u l k = true
        · rw [if_pos ho, if_pos ho, Int32.one_mul, zI_addn]
        · rw [if_neg ho, if_neg ho, Int32.zero_mul, Int32.add_zero, Int.add_zero])
    N 0 0 (Nat.zero_le _) (by omega) rfl
  rw [show mX11_isBooked_18 N (nI s) (nI u) (nI B) (nI l) I N 0 0 = _ from e, hP]
  rfl
theorem m_booked (hn : WfN ν) (h : RM ν σ π I) (hw : WfW ν σ) (hwp : WfW ν π) (hN : 100 ≤ N) {B s u : Nat} : mX11_isBooked N (nI s) (nI u) (nI B) I = some (if bkd ν σ π B s u = true then 1 else 0) := by
  have hln := hn.2.2.1
  have hI := h.1
  have h9 := loopR (F := fun n (_ : Unit) i => mX11_isBooked_3 N (nI s) (nI u) (nI B) I n i) (b := ν.ln) (out := fun _ => Sum.inl ()) (Qr := fun r => r = .inr 0 ∧ ¬ bkd ν σ π B s u = true)
    (P := fun k _ => ∀ l, l < k → ldB ν σ π B s u l ≤ (ν.L l 3 : Int))
    (fun n _ _ => by
      show mX11_isBooked_3 N (nI s) (nI u) (nI B) I (n + 1) (nI ν.ln) = _
      rw [mX11_isBooked_3, hI.2.1, if_pos (nI_le (Nat.le_refl _) (by omega))])
    (fun n k _ hk hP => by
      have hb := ldB_bd (π := π) (B := B) (s := s) (u := u) (l := k) hn hw
      have hL := hn.2.2.2.2.1 k hk
      have key : mX11_isBooked_3 N (nI s) (nI u) (nI B) I (n + 1) (nI k) = if ldB ν σ π B s u k ≤ (ν.L k 3 : Int) then mX11_isBooked_3 N (nI s) (nI u) (nI B) I n (nI (k + 1)) else some (.inr 0) := by
        have i5 : (5 : Int32) * nI k + 3 = nI (5 * k + 3) := by rw [show (5 : Int32) = nI 5 from rfl, nI_mul, show (3 : Int32) = nI 3 from rfl, nI_add]
        rw [mX11_isBooked_3, hI.2.1, if_neg (nI_ge hk (by omega)), m_ib18 hn h hw hwp hN hk, ob_some, i5, ck_n (by omega) (by decide), nI_clamp (by omega), hI.2.2.2.1 k hk 3 (by decide), ← zI_nat, nI_1]
        by_cases hc : ldB ν σ π B s u k ≤ (ν.L k 3 : Int)
        · rw [if_pos ((zI_le ⟨by omega, by omega⟩ ⟨by omega, by omega⟩).mpr hc), if_pos hc]
        · rw [if_neg (fun h => hc ((zI_le ⟨by omega, by omega⟩ ⟨by omega, by omega⟩).mp h)), if_neg hc]
      by_cases hc : ldB ν σ π B s u k ≤ (ν.L k 3 : Int)
      · refine Or.inl ⟨(), by show mX11_isBooked_3 _ _ _ _ _ (n + 1) (nI k) = _; rw [key, if_pos hc], fun l hl => ?_⟩
        by_cases he : l = k
        · subst he; exact hc
        · exact hP l (by omega)
      · exact Or.inr ⟨_, by show mX11_isBooked_3 _ _ _ _ _ (n + 1) (nI k) = _; rw [key, if_neg hc], rfl, fun h => hc (bkd_iff.mp h k hk)⟩)
    N 0 () (Nat.zero_le _) (by omega) (fun l h => by omega)
  unfold mX11_isBooked
  rcases h9 with ⟨-, hP, e⟩ | ⟨r, e, rfl, h2⟩
  · rw [show mX11_isBooked_3 N (nI s) (nI u) (nI B) I N 0 = _ from e, lb_l, if_pos (bkd_iff.mpr hP)]
  · rw [show mX11_isBooked_3 N (nI s) (nI u) (nI B) I N 0 = _ from e, lb_r, if_neg h2]
/-- a place of the reference's table -/
def tbO (ν : Nt) (σ π : St) (B A : Nat) (I : gI) (x : Nat) : Prop := (I 328 x = 1 ∧ Cn ν σ π B A x) ∨ (I 328 x = 0 ∧ ¬ Cn ν σ π B A x)
theorem or512 {s t : Nat} (hs : s < 512) (ht : t < 9) : s ||| 2 ^ t < 512 := Nat.or_lt_two_pow (n := 9) hs (Nat.pow_lt_pow_right (by decide) ht)
set_option maxHeartbeats 1000000 in
theorem m_lc36 (hn : WfN ν) (h : RM ν σ π I) (hw : WfW ν σ) (hwp : WfW ν π) (hN : 100 ≤ N) {B A s : Nat} (hs : s < 512) (hsub : sub9 s A) (h0 : (s = A ∧ I 328 s = 1) ∨ (s ≠ A ∧ I 328 s = 0)) (hT : ∀ x, s < x → x < 512 → sub9 x A → tbO ν σ π B A I x) : ∃ I', mX11_laysCan_36 N (nI A) (nI B) (nI s) N 0 I = some I' ∧ (∀ c, c ≠ 328 → I' c = I c) ∧ (∀ j, j ≠ s → I' 328 j = I 328 j) ∧ tbO ν σ π B A I' s := by
  have htn := hn.2.2.2.1
  have h9 := loopR (F := fun n K i => mX11_laysCan_36 N (nI A) (nI B) (nI s) n i K) (b := ν.tn) (out := id) (Qr := fun I' => (∀ c, c ≠ 328 → I' c = I c) ∧ (∀ j, j ≠ s → I' 328 j = I 328 j) ∧ I' 328 s = 1 ∧ Cn ν σ π B A s)
    (P := fun k K => (∀ c, c ≠ 328 → K c = I c) ∧ (∀ j, j ≠ s → K 328 j = I 328 j) ∧ ((K 328 s = 1 ∧ Cn ν σ π B A s) ∨ (K 328 s = 0 ∧ s ≠ A ∧ ∀ o, o < k → ¬ okT ν σ π B A s o)))
    (fun n K hP => by
      show mX11_laysCan_36 N (nI A) (nI B) (nI s) (n + 1) (nI ν.tn) K = some K
      rw [mX11_laysCan_36, hP.1 310 (by decide), h.1.2.2.1, if_pos (nI_le (Nat.le_refl _) (by omega))])
    (fun n k K hk hP => by
      obtain ⟨p1, p2, p3⟩ := hP
      have tb : ∀ x : Nat, bt (nI x) k = x.testBit k := fun x => b_nI (by omega)
      have hor := or512 (t := k) hs (by omega)
      have hR : RM ν σ π K := h.fr (fun c hc => p1 c (fun e => hc (by simp [e])))
      rcases p3 with ⟨q1, q2⟩ | ⟨q1, q2, q3⟩
      · right
        refine ⟨K, ?_, p1, p2, q1, q2⟩
        show mX11_laysCan_36 N (nI A) (nI B) (nI s) (n + 1) (nI k) K = some K
        rw [mX11_laysCan_36, p1 310 (by decide), h.1.2.2.1, if_neg (nI_ge hk (by omega)), ck_n hs (by decide), nI_clamp (by omega), q1, if_neg (by decide)]
      · left
        have skip : ¬ okT ν σ π B A s k → mX11_laysCan_36 N (nI A) (nI B) (nI s) (n + 1) (nI k) K = mX11_laysCan_36 N (nI A) (nI B) (nI s) n (nI (k + 1)) K → ∃ s', mX11_laysCan_36 N (nI A) (nI B) (nI s) (n + 1) (nI k) K = mX11_laysCan_36 N (nI A) (nI B) (nI s) n (nI (k + 1)) s' ∧ ((∀ c, c ≠ 328 → s' c = I c) ∧ (∀ j, j ≠ s → s' 328 j = I 328 j) ∧ ((s' 328 s = 1 ∧ Cn ν σ π B A s) ∨ (s' 328 s = 0 ∧ s ≠ A ∧ ∀ o, o < k + 1 → ¬ okT ν σ π B A s o))) := fun hno e => ⟨K, e, p1, p2, Or.inr ⟨q1, q2, fun o ho => by
          by_cases e : o = k
          · rw [e]; exact hno
          · exact q3 o (by omega)⟩⟩
        have hd : mX11_laysCan_36 N (nI A) (nI B) (nI s) (n + 1) (nI k) K = (if ((nI A >>> (nI k &&& 31)) &&& 1) = 0 then (mX11_laysCan_36 N (nI A) (nI B) (nI s) n (nI k + 1) K) else (if ((nI s >>> (nI k &&& 31)) &&& 1) = 1 then (mX11_laysCan_36 N (nI A) (nI B) (nI s) n (nI k + 1) K) else (ck (nI s ||| ((1 : Int32) <<< (nI k &&& 31))) 512 (nm (K 328 (nI s ||| ((1 : Int32) <<< (nI k &&& 31))).toNatClampNeg) (fun x12 => if x12 = 0 then (mX11_laysCan_36 N (nI A) (nI B) (nI s) n (nI k + 1) K) else (Option.bind (mX11_isBooked N (nI s) ((1 : Int32) <<< (nI k &&& 31)) (nI B) K) (fun r15 => mX11_laysCan_36 N (nI A) (nI B) (nI s) n (nI k + 1) (upd2 K 328 s (vp_nar .boolean r15))))))))) := by
          rw [mX11_laysCan_36, p1 310 (by decide), h.1.2.2.1, if_neg (nI_ge hk (by omega)), ck_n hs (by decide), nI_clamp (by omega), q1, if_pos rfl]
        show ∃ s', mX11_laysCan_36 N (nI A) (nI B) (nI s) (n + 1) (nI k) K = mX11_laysCan_36 N (nI A) (nI B) (nI s) n (nI (k + 1)) s' ∧ _
        by_cases hA : A.testBit k = true
        · by_cases hS : s.testBit k = true
          · exact skip (fun h => by rw [h.2.2.1] at hS; cases hS) (by rw [hd, if_neg (fun e => by rw [mb0 (by omega), tb, hA] at e; cases e), if_pos ((mb1 (by omega) _).mpr (by rw [tb]; exact hS)), nI_1])
          · have hS' : s.testBit k = false := by simpa using hS
            have hx := hT (s ||| 2 ^ k) (lt_or2 hS') hor (sub_or hsub hA)
            have hKx : K 328 (s ||| 2 ^ k) = I 328 (s ||| 2 ^ k) := p2 _ (by have := lt_or2 hS'; omega)
            have hd2 : mX11_laysCan_36 N (nI A) (nI B) (nI s) (n + 1) (nI k) K = if I 328 (s ||| 2 ^ k) = 0 then mX11_laysCan_36 N (nI A) (nI B) (nI s) n (nI (k + 1)) K else mX11_laysCan_36 N (nI A) (nI B) (nI s) n (nI (k + 1)) (upd2 K 328 s (if bkd ν σ π B s (2 ^ k) = true then 1 else 0)) := by
              rw [hd, if_neg (fun e => by rw [mb0 (by omega), tb, hA] at e; cases e), if_neg (fun e => by rw [mb1 (by omega), tb] at e; exact hS e), sh1_n k (by omega), nx_or, ck_n hor (by decide), nI_clamp (by omega), nm_n, hKx, m_booked hn hR hw hwp hN, ob_some, nI_1]
              by_cases hb : bkd ν σ π B s (2 ^ k) = true
              · rw [if_pos hb, nar1]
              · rw [if_neg hb, nar0]
            rcases hx with ⟨x1, x2⟩ | ⟨x1, x2⟩
            · rw [x1, if_neg (by decide)] at hd2
              by_cases hb : bkd ν σ π B s (2 ^ k) = true
              · rw [if_pos hb] at hd2
                exact ⟨_, hd2, fun c hc => by rw [u2_c hc]; exact p1 c hc, fun j hj => by rw [u2_ne (fun e => hj e.2)]; exact p2 j hj, Or.inl ⟨u2_at, Cn_iff.mpr (Or.inr ⟨k, hk, hA, hS', hb, x2⟩)⟩⟩
              · rw [if_neg hb] at hd2
                refine ⟨_, hd2, fun c hc => by rw [u2_c hc]; exact p1 c hc, fun j hj => by rw [u2_ne (fun e => hj e.2)]; exact p2 j hj, Or.inr ⟨u2_at, q2, fun o ho h => ?_⟩⟩
                by_cases e : o = k
                · rw [e] at h; exact hb h.2.2.2.1
                · exact q3 o (by omega) h
            · rw [x1, if_pos rfl] at hd2
              exact skip (fun h => x2 h.2.2.2.2) hd2
        · have hA' : A.testBit k = false := by simpa using hA
          exact skip (fun h => hA h.2.1) (by rw [hd, if_pos ((mb0 (by omega) _).mpr (by rw [tb]; exact hA')), nI_1]))
    N 0 I (Nat.zero_le _) (by omega) ⟨fun _ _ => rfl, fun _ _ => rfl, by
      rcases h0 with ⟨e1, e2⟩ | ⟨e1, e2⟩
      · exact Or.inl ⟨e2, Cn_iff.mpr (Or.inl e1)⟩
      · exact Or.inr ⟨e2, e1, fun o ho => by omega⟩⟩
  rcases h9 with ⟨K, ⟨p1, p2, p3⟩, e⟩ | ⟨K, e, p1, p2, p3, p4⟩
  · refine ⟨K, e, p1, p2, ?_⟩
    rcases p3 with p3 | ⟨p3, p4, p5⟩
    · exact Or.inl p3
    · refine Or.inr ⟨p3, fun hc => ?_⟩
      rcases Cn_iff.mp hc with h | ⟨t, h⟩
      · exact p4 h
      · exact p5 t h.1 h
  · exact ⟨K, e, p1, p2, Or.inl ⟨p3, p4⟩⟩
theorem m_lc2 (hn : WfN ν) (hw : WfW ν σ) (hwp : WfW ν π) (hN : 100 ≤ N) {B A : Nat} (hA : A < 512) : ∀ (v fu : Nat) (I : gI), v ≤ A → v + 1 < fu → RM ν σ π I → (∀ x, v < x → x < 512 → sub9 x A → tbO ν σ π B A I x) → ∃ I', mX11_laysCan_2 N (nI A) (nI B) fu (nI v) I = some I' ∧ Fr [328] I I' ∧ ∀ x, x < 512 → sub9 x A → tbO ν σ π B A I' x := by
  intro v
  induction v with
  | zero =>
    intro fu I hv hf hR hT
    obtain ⟨n, rfl⟩ : ∃ n, fu = n + 2 := ⟨fu - 2, by omega⟩
    have hs0 : sub9 0 A := fun i hi => by rw [Nat.zero_testBit] at hi; cases hi
    have hfin : ∀ K, mX11_laysCan_2 N (nI A) (nI B) (n + 1) (nI 0 + (-1)) K = some K := fun K => by rw [mX11_laysCan_2, if_pos (by decide)]
    obtain ⟨K, eK, k1, k2, k3⟩ := m_lc36 (N := N) (B := B) (A := A) (s := 0) (I := upd2 I 328 0 (if 0 = A then 1 else 0)) hn (hR.fr (Fr.rf.u2 (by simp))) hw hwp hN (by omega) hs0 (by
      by_cases e : 0 = A
      · exact Or.inl ⟨e, by rw [u2_at, if_pos e]⟩
      · exact Or.inr ⟨e, by rw [u2_at, if_neg e]⟩) (fun x h1 h2 h3 => by
      unfold tbO
      rw [u2_ne (by omega)]
      exact hT x h1 h2 h3)
    have f1 : Fr [328] I K := fun c hc => by rw [k1 c (fun e => hc (by simp [e])), u2_c (fun e => hc (by simp [e]))]
    refine ⟨K, ?_, f1, fun x h1 h2 => ?_⟩
    · rw [mX11_laysCan_2, if_neg (by decide)]
      by_cases e : 0 = A
      · rw [if_pos e] at eK
        rw [if_pos (show nI 0 = nI A by rw [← e]), ob_some, ck_n (by omega) (by decide), if_pos ((sub9_iff (by omega)).mpr hs0), nar1, nI_clamp (by omega), eK, ob_some, hfin]
      · rw [if_neg e] at eK
        rw [if_neg (show ¬ nI 0 = nI A from fun h => e ((nI_eq (by omega) (by omega)).mp h)), ob_some, ck_n (by omega) (by decide), if_pos ((sub9_iff (by omega)).mpr hs0), nar0, nI_clamp (by omega), eK, ob_some, hfin]
    · by_cases e : x = 0
      · rw [e]; exact k3
      · have := hT x (by omega) h1 h2
        unfold tbO at this ⊢
        rw [k2 x e, u2_ne (by omega)]
        exact this
  | succ v ih =>
    intro fu I hv hf hR hT
    obtain ⟨n, rfl⟩ : ∃ n, fu = n + 1 := ⟨fu - 1, by omega⟩
    have hpos : ¬ nI (v + 1) < 0 := nI_pos (by omega)
    by_cases hs : sub9 (v + 1) A
    · obtain ⟨K, eK, k1, k2, k3⟩ := m_lc36 (N := N) (B := B) (A := A) (s := v + 1) (I := upd2 I 328 (v + 1) (if v + 1 = A then 1 else 0)) hn (hR.fr (Fr.rf.u2 (by simp))) hw hwp hN (by omega) hs (by
        by_cases e : v + 1 = A
        · exact Or.inl ⟨e, by rw [u2_at, if_pos e]⟩
        · exact Or.inr ⟨e, by rw [u2_at, if_neg e]⟩) (fun x h1 h2 h3 => by
        unfold tbO
        rw [u2_ne (by omega)]
        exact hT x h1 h2 h3)
      have f1 : Fr [328] I K := fun c hc => by rw [k1 c (fun e => hc (by simp [e])), u2_c (fun e => hc (by simp [e]))]
      obtain ⟨I', e', f', t'⟩ := ih n K (by omega) (by omega) (hR.fr f1) (fun x h1 h2 h3 => by
        by_cases e : x = v + 1
        · rw [e]; exact k3
        · have := hT x (by omega) h2 h3
          unfold tbO at this ⊢
          rw [k2 x e, u2_ne (by omega)]
          exact this)
      refine ⟨I', ?_, f1.tr f', t'⟩
      rw [mX11_laysCan_2, if_neg hpos]
      by_cases e : v + 1 = A
      · rw [if_pos e] at eK
        rw [if_pos (show nI (v + 1) = nI A by rw [← e]), ob_some, ck_n (by omega) (by decide), if_pos ((sub9_iff (by omega)).mpr hs), nar1, nI_clamp (by omega), eK, ob_some, nI_dec, e']
      · rw [if_neg e] at eK
        rw [if_neg (show ¬ nI (v + 1) = nI A from fun h => e ((nI_eq (by omega) (by omega)).mp h)), ob_some, ck_n (by omega) (by decide), if_pos ((sub9_iff (by omega)).mpr hs), nar0, nI_clamp (by omega), eK, ob_some, nI_dec, e']
    · have f1 : Fr [328] I (upd2 I 328 (v + 1) 0) := Fr.rf.u2 (by simp)
      obtain ⟨I', e', f', t'⟩ := ih n (upd2 I 328 (v + 1) 0) (by omega) (by omega) (hR.fr f1) (fun x h1 h2 h3 => by
        have ne : x ≠ v + 1 := fun e => hs (by rw [← e]; exact h3)
        have := hT x (by omega) h2 h3
        unfold tbO at this ⊢
        rw [u2_ne (by omega)]
        exact this)
      have e : ¬ v + 1 = A := fun e => hs (by rw [e]; exact fun _ h => h)
      refine ⟨I', ?_, f1.tr f', t'⟩
      rw [mX11_laysCan_2, if_neg hpos, if_neg (show ¬ nI (v + 1) = nI A from fun h => e ((nI_eq (by omega) (by omega)).mp h)), ob_some, ck_n (by omega) (by decide), if_neg (fun h => hs ((sub9_iff (by omega)).mp h)), nar0, nI_clamp (by omega), nI_dec, e']
theorem m_laysC (hn : WfN ν) (hw : WfW ν σ) (hwp : WfW ν π) (hN : 1000 ≤ N) {B A : Nat} (hA : A < 512) (hR : RM ν σ π I) : ∃ I', mX11_laysCan N (nI A) (nI B) I = some I' ∧ Fr [328] I I' ∧ ∀ x, x < 512 → sub9 x A → tbO ν σ π B A I' x := by
  obtain ⟨I', e, f, t⟩ := m_lc2 (N := N) (B := B) hn hw hwp (by omega) hA A N I (Nat.le_refl _) (by omega) hR (fun x h1 h2 h3 => by
    have := sub9_le h3
    omega)
  refine ⟨I', ?_, f, t⟩
  unfold mX11_laysCan
  rw [e, ob_some]
end Mv0
