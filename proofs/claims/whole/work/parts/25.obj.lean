/-! objects made in a call: Apart, Years -/
section Obj
variable {S : gS}
def IsAp (S : gS) (t : Nat) : Prop := S.1 t = (6, 0) ∧ t < S.2.2 ∧ S.2.1 t 0 = some 2 ∧ S.2.1 t 1 = some 30
def IsYe (S : gS) (t : Nat) : Prop := S.1 t = (14, 0) ∧ t < S.2.2 ∧ S.2.1 t 0 = some 2 ∧ S.2.1 t 1 = some 42
theorem nw_k {n : Nat} {kd : Nat × Nat} (h : n = S.2.2) : (newS S kd).1 n = kd := by subst h; simp [newS]
theorem nw_n {n : Nat} {kd : Nat × Nat} (h : n = S.2.2) : n < (newS S kd).2.2 := by subst h; exact Nat.lt_succ_self _
theorem shK_len : shK.length = 338 := by decide +kernel
theorem shR_len : shR.length = 338 := by decide +kernel
theorem shK_lt {k : Nat} {kd : Nat × Nat} (h : shK[k]? = some kd) : k < 338 := by
  have := (List.getElem?_eq_some_iff.mp h).1
  rw [shK_len] at this
  exact this
theorem shR_lt {k j r : Nat} (h : ((shR[k]?).bind fun l => l[j]?) = some (some r)) : k < 338 := by
  cases e : shR[k]? with
  | none => rw [e] at h; cases h
  | some l =>
    have := (List.getElem?_eq_some_iff.mp e).1
    rw [shR_len] at this
    exact this
theorem Sh_nw9 {kd : Nat × Nat} (h : Sh S) : Sh (newS S kd) := by
  have h9 := h.2.2
  refine ⟨fun k kd' hk => ?_, fun k j r hr => ?_, Nat.le_succ_of_le h9⟩
  · have := shK_lt hk
    show (if k = S.2.2 then kd else S.1 k) = kd'
    rw [if_neg (by omega)]
    exact h.1 k kd' hk
  · have := shR_lt hr
    show (if k = S.2.2 then none else S.2.1 k j) = some r
    rw [if_neg (by omega)]
    exact h.2.1 k j r hr
theorem Sh_put {n j9 : Nat} {v : Option Nat} (hn : 338 ≤ n) (h : Sh S) : Sh (updR S n j9 v) := by
  refine ⟨h.1, fun k j r hr => ?_, h.2.2⟩
  have := shR_lt hr
  show (if k = n ∧ j = j9 then v else S.2.1 k j) = some r
  rw [if_neg (by omega)]
  exact h.2.1 k j r hr
theorem Sh_put2 {n x y : Nat} (hn : 338 ≤ n) (h : Sh S) : Sh (updR (updR S n 0 (some x)) n 1 (some y)) := Sh_put hn (Sh_put hn h)
theorem nw_ap {n : Nat} (h1 : S.1 n = (6, 0)) (h2 : n < S.2.2) : IsAp (updR (updR S n 0 (some 2)) n 1 (some 30)) n := ⟨h1, h2, by simp [updR], by simp [updR]⟩
theorem nw_ye {n : Nat} (h1 : S.1 n = (14, 0)) (h2 : n < S.2.2) : IsYe (updR (updR S n 0 (some 2)) n 1 (some 42)) n := ⟨h1, h2, by simp [updR], by simp [updR]⟩
variable {I : gI} {J : gJ}
set_option maxHeartbeats 4000000 in
set_option maxRecDepth 100000 in
theorem ct_X1_init (d : Nat) (hd : 1 ≤ d) {n x y : Nat} {a b c : Int32} (hk : S.1 n = (6, 0)) (hn : n < S.2.2) (hx : x < S.2.2) (hy : y < S.2.2) :
    Ct yX1_init (wsY yX1_init cX1_init 6 none) d 0 0 [.ref n, .ref x, .ref y, .int a, .int b, .int c] S I J (qE (.inl none) (updR (updR S n 0 (some x)) n 1 (some y)) (upd2 (upd2 (upd2 (upd2 I n 5 1000000) n 2 a) n 3 b) n 4 c) J) := by
  refine Ct.of hT (fun _ _ _ _ h => h) (by decide +kernel) (Nat.le_of_ble_eq_true rfl) ⟨Or.inl hn, Or.inl hx, Or.inl hy, trivial, trivial, trivial, trivial⟩ ?_
  show Wp RX1 cX1_init 6 none [] hT d 0 0 0 [(0, .ref n), (1, .ref x), (2, .ref y), (3, .int a), (4, .int b), (5, .int c)] [] S I J _
  refine wp_aload_n dX1_init_0 rfl rfl ?_
  refine wp_objInit dX1_init_1 mlX1_3 oi_1 oi_2 hd (Nat.le_of_ble_eq_true rfl) ?_
  refine wp_aload_n dX1_init_4 rfl rfl ?_
  refine wp_ldc dX1_init_5 koX1_9 ?_
  refine wp_putI dX1_init_7 (Or.inl fpX1_10) rfl ⟨rfl, rfl⟩ hk hn ?_
  refine wp_aload_n dX1_init_10 rfl rfl ?_
  refine wp_aload_n dX1_init_11 rfl rfl ?_
  refine wp_putR dX1_init_12 (Or.inr ⟨fun _ _ _ _ h => h, ffX1_16⟩) rfl (fun _ => ⟨rfl, rfl⟩) hk hn hx ?_
  refine wp_aload_n dX1_init_15 rfl rfl ?_
  refine wp_aload_n dX1_init_16 rfl rfl ?_
  refine wp_putR dX1_init_17 (Or.inr ⟨fun _ _ _ _ h => h, ffX1_20⟩) rfl (fun _ => ⟨rfl, rfl⟩) hk hn hy ?_
  refine wp_aload_n dX1_init_20 rfl rfl ?_
  refine wp_iload_n dX1_init_21 rfl rfl ?_
  refine wp_putI dX1_init_22 (Or.inr ⟨fun _ _ _ _ h => h, ffX1_24⟩) rfl ⟨rfl, rfl⟩ hk hn ?_
  refine wp_aload_n dX1_init_25 rfl rfl ?_
  refine wp_iload dX1_init_26 rfl ?_
  refine wp_putI dX1_init_28 (Or.inr ⟨fun _ _ _ _ h => h, ffX1_27⟩) rfl ⟨rfl, rfl⟩ hk hn ?_
  refine wp_aload_n dX1_init_31 rfl rfl ?_
  refine wp_iload dX1_init_32 rfl ?_
  refine wp_putI dX1_init_34 (Or.inr ⟨fun _ _ _ _ h => h, ffX1_30⟩) rfl ⟨rfl, rfl⟩ hk hn ?_
  exact wp_vret dX1_init_37 rfl ⟨rfl, rfl, rfl, rfl⟩
set_option maxHeartbeats 4000000 in
set_option maxRecDepth 100000 in
theorem ct_X9_init (d : Nat) (hd : 1 ≤ d) {n x y : Nat} {a : Int32} (hk : S.1 n = (14, 0)) (hn : n < S.2.2) (hx : x < S.2.2) (hy : y < S.2.2) :
    Ct yX9_init (wsY yX9_init cX9_init 4 none) d 0 0 [.ref n, .ref x, .ref y, .int a] S I J (qE (.inl none) (updR (updR S n 0 (some x)) n 1 (some y)) (upd2 I n 2 a) J) := by
  refine Ct.of hT (fun _ _ _ _ h => h) (by decide +kernel) (Nat.le_of_ble_eq_true rfl) ⟨Or.inl hn, Or.inl hx, Or.inl hy, trivial, trivial⟩ ?_
  show Wp RX9 cX9_init 4 none [] hT d 0 0 0 [(0, .ref n), (1, .ref x), (2, .ref y), (3, .int a)] [] S I J _
  refine wp_aload_n dX9_init_0 rfl rfl ?_
  refine wp_objInit dX9_init_1 mlX9_1 oi_1 oi_2 hd (Nat.le_of_ble_eq_true rfl) ?_
  refine wp_aload_n dX9_init_4 rfl rfl ?_
  refine wp_aload_n dX9_init_5 rfl rfl ?_
  refine wp_putR dX9_init_6 (Or.inr ⟨fun _ _ _ _ h => h, ffX9_7⟩) rfl (fun _ => ⟨rfl, rfl⟩) hk hn hx ?_
  refine wp_aload_n dX9_init_9 rfl rfl ?_
  refine wp_aload_n dX9_init_10 rfl rfl ?_
  refine wp_putR dX9_init_11 (Or.inr ⟨fun _ _ _ _ h => h, ffX9_13⟩) rfl (fun _ => ⟨rfl, rfl⟩) hk hn hy ?_
  refine wp_aload_n dX9_init_14 rfl rfl ?_
  refine wp_iload_n dX9_init_15 rfl rfl ?_
  refine wp_putI dX9_init_16 (Or.inl fpX9_17) rfl ⟨rfl, rfl⟩ hk hn ?_
  exact wp_vret dX9_init_19 rfl ⟨rfl, rfl, rfl, rfl⟩
end Obj
