/-! constructors: what is built from a cell n on -/
def Bz (n : Nat) (S0 S : gS) (K : List (Nat × Nat)) (R : List ((Nat × Nat) × Nat)) (I : gI) (J : gJ) : Prop :=
  S.2.2 = n + K.length ∧ (∀ i kd, K[i]? = some kd → S.1 (n + i) = kd) ∧ (∀ q ∈ R, S.2.1 (n + q.1.1) q.1.2 = some q.2) ∧ (∀ a, a < n → S.1 a = S0.1 a ∧ ∀ j, S.2.1 a j = S0.2.1 a j) ∧ (∀ a, S.2.2 ≤ a → ∀ b, I a b = 0) ∧ (∀ a, S.2.2 ≤ a → ∀ b, J a b = 0)
section Bzs
variable {n : Nat} {S0 S : gS} {K : List (Nat × Nat)} {R : List ((Nat × Nat) × Nat)} {I : gI} {J : gJ}
theorem Bz.k (h : Bz n S0 S K R I J) (i : Nat) {kd : Nat × Nat} (hi : K[i]? = some kd) : S.1 (n + i) = kd := h.2.1 i kd hi
theorem Bz.r (h : Bz n S0 S K R I J) (i : Nat) {q : (Nat × Nat) × Nat} (hi : R[i]? = some q) : S.2.1 (n + q.1.1) q.1.2 = some q.2 := h.2.2.1 q (List.mem_of_getElem? hi)
theorem Bz.lt (h : Bz n S0 S K R I J) (i : Nat) (hi : Nat.ble (i + 1) K.length = true) : n + i < S.2.2 := by have := h.1; have := Nat.le_of_ble_eq_true hi; omega
theorem Bz.lo (h : Bz n S0 S K R I J) {x : Nat} (hx : x < n) : x < S.2.2 := by have := h.1; omega
theorem Bz.fk (h : Bz n S0 S K R I J) {x : Nat} (hx : x < n) {kd : Nat × Nat} (hk : S0.1 x = kd) : S.1 x = kd := (h.2.2.2.1 x hx).1.trans hk
theorem Bz.fr (h : Bz n S0 S K R I J) {x j : Nat} (hx : x < n) {v : Option Nat} (hk : S0.2.1 x j = v) : S.2.1 x j = v := ((h.2.2.2.1 x hx).2 j).trans hk
theorem Bz.zi (h : Bz n S0 S K R I J) : newI I S.2.2 = I := by
  funext a b
  simp only [newI]
  split
  · next e => rw [e, h.2.2.2.2.1 _ (Nat.le_refl _)]
  · rfl
theorem Bz.zj (h : Bz n S0 S K R I J) : newJ J S.2.2 = J := by
  funext a b
  simp only [newJ]
  split
  · next e => rw [e, h.2.2.2.2.2 _ (Nat.le_refl _)]
  · rfl
theorem Bz.new (h : Bz n S0 S K R I J) (kd : Nat × Nat) (hR : (R.all fun q => Nat.ble (q.1.1 + 1) K.length) = true) : Bz n S0 (newS S kd) (K ++ [kd]) R I J := by
  have hc := h.1
  refine ⟨by show S.2.2 + 1 = _; rw [hc, List.length_append]; rfl, fun i kd' hi => ?_, fun q hq => ?_, fun a ha => ?_, fun a ha => h.2.2.2.2.1 a (Nat.le_of_succ_le ha), fun a ha => h.2.2.2.2.2 a (Nat.le_of_succ_le ha)⟩
  · show (if n + i = S.2.2 then kd else S.1 (n + i)) = kd'
    by_cases hk : i < K.length
    · rw [List.getElem?_append_left hk] at hi
      rw [if_neg (by omega)]
      exact h.2.1 i kd' hi
    · have hl := (List.getElem?_eq_some_iff.mp hi).1
      rw [List.length_append] at hl
      have e : i = K.length := by simp at hl; omega
      subst e
      rw [if_pos hc.symm]
      simp at hi
      exact hi
  · have := Nat.le_of_ble_eq_true (List.all_eq_true.mp hR q hq)
    show (if n + q.1.1 = S.2.2 then none else S.2.1 (n + q.1.1) q.1.2) = _
    rw [if_neg (by omega)]
    exact h.2.2.1 q hq
  · constructor
    · show (if a = S.2.2 then kd else S.1 a) = _
      rw [if_neg (by omega)]
      exact (h.2.2.2.1 a ha).1
    · intro j
      show (if a = S.2.2 then none else S.2.1 a j) = _
      rw [if_neg (by omega)]
      exact (h.2.2.2.1 a ha).2 j
theorem Bz.put (h : Bz n S0 S K R I J) (i j r : Nat) (hR : (R.all fun q => !(Nat.beq q.1.1 i && Nat.beq q.1.2 j)) = true) : Bz n S0 (updR S (n + i) j (some r)) K (((i, j), r) :: R) I J := by
  refine ⟨h.1, h.2.1, fun q hq => ?_, fun a ha => ⟨(h.2.2.2.1 a ha).1, fun j' => ?_⟩, h.2.2.2.2.1, h.2.2.2.2.2⟩
  · rcases List.mem_cons.mp hq with rfl | hq
    · show (if n + i = n + i ∧ j = j then some r else _) = some r
      rw [if_pos ⟨rfl, rfl⟩]
    · have h9 := List.all_eq_true.mp hR q hq
      show (if n + q.1.1 = n + i ∧ q.1.2 = j then some r else S.2.1 (n + q.1.1) q.1.2) = _
      rw [if_neg, h.2.2.1 q hq]
      rintro ⟨e1, e2⟩
      have e3 : q.1.1 = i := by omega
      rw [e3, e2] at h9
      simp at h9
  · show (if a = n + i ∧ j' = j then some r else S.2.1 a j') = _
    rw [if_neg (by omega)]
    exact (h.2.2.2.1 a ha).2 j'
theorem Bz.putI (h : Bz n S0 S K R I J) (i j : Nat) (v : Int32) (hi : Nat.ble (i + 1) K.length = true) : Bz n S0 S K R (upd2 I (n + i) j v) J := by
  have hc := h.1
  have := Nat.le_of_ble_eq_true hi
  refine ⟨h.1, h.2.1, h.2.2.1, h.2.2.2.1, fun a ha b => ?_, h.2.2.2.2.2⟩
  show (if a = n + i ∧ b = j then v else I a b) = 0
  rw [if_neg (by omega)]
  exact h.2.2.2.2.1 a ha b
/-- where the next object's constructor begins -/
theorem Bz.sub (h : Bz n S0 S K R I J) (m : Nat) {kd : Nat × Nat} (hm : K[m]? = some kd) (hl : Nat.beq K.length (m + 1) = true) : Bz (n + m) S S [kd] [] I J := by
  have hl' := Nat.eq_of_beq_eq_true hl
  have hc := h.1
  refine ⟨by show S.2.2 = n + m + 1; omega, fun i kd' hi => ?_, fun q hq => (nomatch hq), fun a _ => ⟨rfl, fun _ => rfl⟩, h.2.2.2.2.1, h.2.2.2.2.2⟩
  cases i with
  | zero => cases hi; exact h.2.1 m _ hm
  | succ i => cases hi
def shR1 (m : Nat) : List ((Nat × Nat) × Nat) → List ((Nat × Nat) × Nat)
  | [] => []
  | q :: t => ((m + q.1.1, q.1.2), q.2) :: shR1 m t
theorem shR1_mem {m : Nat} : ∀ {R : List ((Nat × Nat) × Nat)} {q : (Nat × Nat) × Nat}, q ∈ shR1 m R → ∃ q0 ∈ R, q = ((m + q0.1.1, q0.1.2), q0.2)
  | q0 :: t, q, h => by
    rcases List.mem_cons.mp h with rfl | h
    · exact ⟨q0, List.mem_cons_self, rfl⟩
    · obtain ⟨q1, h1, h2⟩ := shR1_mem h
      exact ⟨q1, List.mem_cons_of_mem _ h1, h2⟩
theorem Bz.join {S' : gS} {I' : gI} {J' : gJ} {m : Nat} {kd : Nat × Nat} {Kc : List (Nat × Nat)} {Rc : List ((Nat × Nat) × Nat)} (h : Bz n S0 S (K ++ [kd]) R I J) (h2 : Bz (n + m) S S' Kc Rc I' J') (hm : Nat.beq K.length m = true) (hR : (R.all fun q => Nat.ble (q.1.1 + 1) m) = true) :
    Bz n S0 S' (K ++ Kc) (shR1 m Rc ++ R) I' J' := by
  have hm' := Nat.eq_of_beq_eq_true hm
  have hc := h.1
  have hc2 := h2.1
  refine ⟨by rw [hc2, List.length_append]; omega, fun i kd' hi => ?_, fun q hq => ?_, fun a ha => ?_, h2.2.2.2.2.1, h2.2.2.2.2.2⟩
  · by_cases hk : i < K.length
    · rw [List.getElem?_append_left hk] at hi
      rw [(h2.2.2.2.1 (n + i) (by omega)).1]
      exact h.2.1 i kd' (by rw [List.getElem?_append_left hk]; exact hi)
    · rw [List.getElem?_append_right (by omega)] at hi
      have := h2.2.1 _ _ hi
      rw [show n + m + (i - K.length) = n + i by omega] at this
      exact this
  · rcases List.mem_append.mp hq with hq | hq
    · obtain ⟨q0, h0, rfl⟩ := shR1_mem hq
      have := h2.2.2.1 q0 h0
      rw [show n + m + q0.1.1 = n + (m + q0.1.1) by omega] at this
      exact this
    · have := Nat.le_of_ble_eq_true (List.all_eq_true.mp hR q hq)
      rw [(h2.2.2.2.1 (n + q.1.1) (by omega)).2]
      exact h.2.2.1 q hq
  · rw [(h2.2.2.2.1 a (by omega)).1]
    exact ⟨(h.2.2.2.1 a ha).1, fun j => by rw [(h2.2.2.2.1 a (by omega)).2]; exact (h.2.2.2.1 a ha).2 j⟩
end Bzs
/-- the end of a constructor -/
def qB (n : Nat) (S0 : gS) (K : List (Nat × Nat)) (R : List ((Nat × Nat) × Nat)) (I1 : gI) (J1 : gJ) : gO → gS → gI → gJ → Prop := fun o S' I' J' => o = .inl none ∧ Bz n S0 S' K R I1 J1 ∧ I' = I1 ∧ J' = J1
section BzCall
variable {own : String} {cc : ByteArray} {nL : Nat} {ret : Option FieldType} {hh : List ExceptionTableEntry} {isI : gH} {d rc rs pc : Nat} {ls : List (Nat × Value)} {S : gS} {I : gI} {J : gJ} {Q : gO → gS → gI → gJ → Prop}
theorem wp_callB {y : MethodName} {cc' : ByteArray} {nL' n idx b d' mc' ms' n1 : Nat} {As stk rest : List Value} {S1 : gS} {K : List (Nat × Nat)} {R : List ((Nat × Nat) × Nat)} {I1 : gI} {J1 : gJ}
    (hd : decode cc pc = .ok (.invokespecial idx, 3)) (hB : LkB y cc' nL' none n) (hlink : Cond.methodLink own idx y ∈ LW ∨ ∃ host, Cond.methodLinkNest own idx y host ∈ NW) (hinst : Cond.instanceMethod y ∈ LW) (hy1 : y.name = "<init>")
    (hCt : Ct y (wsY y cc' nL' none) d' mc' ms' (.ref b :: As) S I J (qB n1 S1 K R I1 J1)) (hstk : stk = As.reverse ++ .ref b :: rest) (hlen : As.length = n) (hdd : d' + 1 ≤ d) (hroom : (rest.map fun v => v.category).sum ≤ 8)
    (kk : ∀ S', Bz n1 S1 S' K R I1 J1 → Wp own cc nL ret hh isI d rc rs (pc + 3) ls rest S' I1 J1 Q) : Wp own cc nL ret hh isI d (rc + mc') (rs + ms') pc ls stk S I J Q :=
  wp_callI hd hB hlink hinst hy1 hCt hstk hlen hdd hroom (fun E S' I' J' h => by cases h.1) (fun v S' I' J' h w hw => by rw [Sum.inl.inj h.1] at hw; cases hw) (fun v S' I' J' h _ => by
    obtain ⟨h1, h2, rfl, rfl⟩ := h
    cases h1
    exact kk S' h2)
end BzCall
