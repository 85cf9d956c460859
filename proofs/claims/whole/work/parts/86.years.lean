/-! years -/
section YearsF
variable {ν : Nt} {σ σ' : St} {I I1 I2 : gI} {N : Nat} {ks : List St} {vs : List (Nat → Nat)} {c : Nat}
theorem m_fails2 {b : Nat} (hn : WfN ν) (hN : 100000000000 ≤ N) (hb : b ≤ 82) {l n : Nat} (hl : l < ν.ln) (g : Gd ν σ) (hI : NetM ν I) (hs : MS ν 317 b σ I) (hS : Stl ν 9 (mk9 (onS σ l) ν.tn) (brk ν σ l) n σ') : ∃ I', mX11_fails N (nI b) (nI l) I = some I' ∧ MS ν 317 b σ' I' ∧ FS b I I' ∧ I' 310 36 = I 310 36 + nI n := by
  have htn := hn.2.2.2.1
  have hln := hn.2.2.1
  have hww := g.wf hn
  obtain ⟨x, hx⟩ : ∃ x, x = σ.up &&& (((1 : Int32) <<< (nI l &&& 31)) ^^^ (-1)) := ⟨_, rfl⟩
  have hs1 : MS ν 317 b (upS σ x) (upd2 I 317 b x) := ⟨u2_at, fun t ht => by rw [u2_ne (by omega), u2_ne (by omega)]; exact ⟨(hs.2 t ht).1, (hs.2 t ht).2.1, fun k hk => by rw [u2_ne (by omega)]; exact (hs.2 t ht).2.2 k hk⟩⟩
  have hw1 : WfW ν (upS σ x) := hww
  obtain ⟨⟨v, s⟩, hP, e⟩ := loopP (F := fun n (v : Int32 × gI) i => mX11_fails_21 N (nI b) (nI l) n v.1 i v.2) (b := ν.tn) (out := fun v => (v.1, v.2))
    (P := fun k v => v.1 = bm (onS σ l) k ∧ FS b I v.2 ∧ MS ν 317 b (dpW (upS σ x) (mk9 (onS σ l) k)) v.2 ∧ v.2 310 = I 310)
    (fun n v hP => by
      show mX11_fails_21 N (nI b) (nI l) (n + 1) v.1 (nI ν.tn) v.2 = some (v.1, v.2)
      rw [mX11_fails_21, (hI.fs hP.2.1).2.2.1, if_pos (nI_le (Nat.le_refl _) (by omega))])
    (fun n k v hk hP => by
      have hIk := hI.fs hP.2.1
      have ek : (dpW (upS σ x) (mk9 (onS σ l) k)).w k = σ.w k := by
        rw [dpW_w, mk9_tb]
        simp
        rfl
      have d : mX11_wayBits N (nI b) (nI k) v.2 = some (wb (σ.w k)) := by rw [m_wb hn hP.2.2.1 (WfW_dp hw1 _) hb (by omega) hk, ek]
      have key : mX11_fails_21 N (nI b) (nI l) (n + 1) v.1 (nI k) v.2 = if l ∈ σ.w k then mX11_fails_21 N (nI b) (nI l) n (v.1 ||| ((1 : Int32) <<< (nI k &&& 31))) (nI (k + 1)) (upd2 v.2 317 (b + 10 + k) (-1)) else mX11_fails_21 N (nI b) (nI l) n v.1 (nI (k + 1)) v.2 := by
        rw [mX11_fails_21, hIk.2.2.1, if_neg (nI_ge hk (by omega)), d, ob_some, ix10, ck_n (by omega) (by decide), nI_clamp (by omega), nI_1]
        by_cases h : l ∈ σ.w k
        · rw [if_neg (fun e => by rw [mb0 (by omega), wb_t hn hww hk (by omega)] at e; simp [h] at e), if_pos h]
        · rw [if_pos ((mb0 (by omega) _).mpr (by rw [wb_t hn hww hk (by omega)]; simp [h])), if_neg h]
      by_cases h : l ∈ σ.w k
      · have hp : onS σ l k = true := decide_eq_true h
        rw [if_pos h] at key
        refine ⟨(v.1 ||| ((1 : Int32) <<< (nI k &&& 31)), upd2 v.2 317 (b + 10 + k) (-1)), key, ?_, hP.2.1.u (by omega) (by omega), ?_⟩
        · show v.1 ||| ((1 : Int32) <<< (nI k &&& 31)) = bm (onS σ l) (k + 1)
          rw [bm, if_pos hp, hP.1]
        · refine ⟨?_, (u2_c (I := v.2) (a := 317) (j := b + 10 + k) (v := -1) (a' := 310) (by decide)).trans hP.2.2.2⟩
          rw [← dp_step hp]
          exact ms_off hn (WfW_dp hw1 _) hP.2.2.1 hk
      · have hp : ¬ onS σ l k = true := by unfold onS; simp [h]
        rw [if_neg h] at key
        refine ⟨v, key, ?_, hP.2.1, ?_⟩
        · rw [bm, if_neg hp, hP.1]
        · refine ⟨?_, hP.2.2.2⟩
          rw [mk9, if_neg hp]; exact hP.2.2.1)
    N 0 (0, upd2 I 317 b x) (Nat.zero_le _) (by omega) ⟨rfl, FS.rf.u (by omega) (by omega), by
      have e : dpW (upS σ x) (mk9 (onS σ l) 0) = upS σ x := by
        unfold dpW mk9
        simp
      rw [e]; exact hs1, u2_c (I := I) (a := 317) (j := b) (v := x) (a' := 310) (by decide)⟩
  have hv : v = nI (mk9 (onS σ l) ν.tn) := by rw [← mk9_bm _ (by omega)]; exact hP.1
  have hbrk : dpW (upS σ x) (mk9 (onS σ l) ν.tn) = brk ν σ l := by unfold brk; rw [hx]
  have hM := hP.2.2.1
  rw [hbrk] at hM
  obtain ⟨I', e2, hM', f', p'⟩ := m_settle (N := N) hn hN hb (Gd_brk hn g hl) (hI.fs hP.2.1) hM (mk9_lt _) hS
  refine ⟨I', ?_, hM', hP.2.1.tr f', by rw [p', hP.2.2.2]⟩
  unfold mX11_fails
  rw [Int32.add_zero, ck_n (by omega) (by decide), nI_clamp (by omega), hs.1, nm_n, ← hx, show mX11_fails_21 N (nI b) (nI l) N 0 0 (upd2 I 317 b x) = some (v, s) from e, ob_some]
  dsimp only
  rw [hv, e2, ob_some]
/-- a question that makes an object -/
theorem ask_fin9 (h : Pk ν σ ks vs I) (mv : Mv c I) {X : List Nat} {n9 : Nat} (h9 : 338 ≤ n9) (f : Fr (n9 :: X) I I1) (hX : ∀ c ∈ X, c < 310 ∧ (sc c ∨ (36 ≤ c ∧ c ≤ 38))) (cs : CS ν 36 σ I1) (s2 : Sm I1 I2) : Inv (c + 1) I2 := by
  obtain ⟨K, hK⟩ : ∃ K : gI, K = fun a => if a = n9 then I n9 else I1 a := ⟨_, rfl⟩
  have k1 : ∀ a, a ≠ n9 → K a = I1 a := fun a ha => by rw [hK]; exact if_neg ha
  have fK : Fr X I K := fun a ha => by
    by_cases e : a = n9
    · rw [hK, e]; exact if_pos rfl
    · rw [k1 a e]; exact f a (fun h => by rcases List.mem_cons.mp h with h | h; exact e h; exact ha h)
  have sK : Sm K I1 := Sm.fr (X := [n9]) (fun a ha => (k1 a (fun e => ha (by simp [e]))).symm) (fun a ha => by rw [List.mem_singleton] at ha; subst ha; unfold sc; omega)
  exact ask_fin h mv fK hX (cs.eq (k1 _ (by omega)) (k1 _ (by omega)) (k1 _ (by omega))) (sK.tr s2)
theorem ask_ref9 (h : Pk ν σ ks vs I) {X : List Nat} {n9 : Nat} (h9 : 338 ≤ n9) (f : Fr (n9 :: X) I I1) (hX : ∀ c ∈ X, c < 310 ∧ (sc c ∨ (36 ≤ c ∧ c ≤ 38))) : NetC ν I1 ∧ NetM ν I1 ∧ MS ν 317 0 σ I1 := by
  have hi : ∀ c, 310 ≤ c → c < 338 → I1 c = I c := fun c hc h3 => f c (fun h => by rcases List.mem_cons.mp h with h | h; omega; have := (hX c h).1; omega)
  have hl : ∀ c, 2 ≤ c → c ≤ 14 → I1 c = I c := fun c hc h3 => f c (fun h => by rcases List.mem_cons.mp h with h | h; omega; have := (hX c h).2; unfold sc at this; omega)
  obtain ⟨a1, a2, a3, a4, a5⟩ := h.2.2.1
  obtain ⟨b1, b2, b3, b4, b5⟩ := h.2.2.2.1
  refine ⟨⟨by rw [hl 2 (by omega) (by omega)]; exact a1, by rw [hl 2 (by omega) (by omega)]; exact a2, by rw [hl 2 (by omega) (by omega)]; exact a3, fun l hl' j hj => by rw [hl _ (by omega) (by omega)]; exact a4 l hl' j hj, fun l hl' j hj => by rw [hl _ (by omega) (by omega)]; exact a5 l hl' j hj⟩, ⟨by rw [hi 310 (by omega) (by omega)]; exact b1, by rw [hi 310 (by omega) (by omega)]; exact b2, by rw [hi 310 (by omega) (by omega)]; exact b3, by rw [hi 313 (by omega) (by omega)]; exact b4, by rw [hi 315 (by omega) (by omega)]; exact b5⟩, h.2.2.2.2.2.1.c (hi 317 (by omega) (by omega))⟩
end YearsF
def nxt (s : Int32) : Int32 := s * 1103515245 + 12345
def drY (s : Int32) : Nat := mk9 (fun i => bt s (16 + i)) 15
def drw (s : Int32) (n : Nat) : Nat := drY s % n
def Ys1 (ν : Nt) (s : Int32) (σ : St) (d : Int32) (s' : Int32) (σ' : St) (d' : Int32) : Prop :=
  (drw (nxt s) 4 = 3 ∧ ν.ln = 0 ∧ s' = nxt s ∧ σ' = σ ∧ d' = d) ∨
  (drw (nxt s) 4 = 3 ∧ ν.ln ≠ 0 ∧ s' = nxt (nxt s) ∧ ((bt σ.up (drw (nxt (nxt s)) ν.ln) = true ∧ ∃ c, Stl ν 9 (mk9 (onS σ (drw (nxt (nxt s)) ν.ln)) ν.tn) (brk ν σ (drw (nxt (nxt s)) ν.ln)) c σ' ∧ d' = d + nI c) ∨ (bt σ.up (drw (nxt (nxt s)) ν.ln) = false ∧ σ' = upS σ (σ.up ||| ((1 : Int32) <<< (nI (drw (nxt (nxt s)) ν.ln) &&& 31))) ∧ d' = d))) ∨
  (drw (nxt s) 4 ≠ 3 ∧ ν.tn = 0 ∧ s' = nxt s ∧ σ' = σ ∧ d' = d) ∨
  (drw (nxt s) 4 ≠ 3 ∧ ν.tn ≠ 0 ∧ s' = nxt (nxt s) ∧ ((drw (nxt s) 4 = 2 ∧ σ' = dpW σ (2 ^ drw (nxt (nxt s)) ν.tn) ∧ d' = d) ∨ (drw (nxt s) 4 ≠ 2 ∧ σ.w (drw (nxt (nxt s)) ν.tn) = [] ∧ ∃ c, Stl ν 9 (2 ^ drw (nxt (nxt s)) ν.tn) σ c σ' ∧ d' = d + nI c) ∨ (drw (nxt s) 4 ≠ 2 ∧ σ.w (drw (nxt (nxt s)) ν.tn) ≠ [] ∧ σ' = σ ∧ d' = d)))
def Ys (ν : Nt) : Nat → Int32 → St → Int32 → Int32 → St → Int32 → Prop
  | 0, s, σ, d, s', σ', d' => s' = s ∧ σ' = σ ∧ d' = d
  | n + 1, s, σ, d, s', σ', d' => ∃ s1 σ1 d1, Ys ν n s σ d s1 σ1 d1 ∧ Ys1 ν s1 σ1 d1 s' σ' d'
/-- what years leave as it was -/
def FY (I I' : gI) : Prop := (∀ c, c ∉ [310, 317, 319, 320, 321, 322, 323, 324] → I' c = I c) ∧ (∀ j, j ∉ [32, 33, 34, 35, 36, 47] → I' 310 j = I 310 j) ∧ ∀ j, (j < 82 ∨ 164 ≤ j) → I' 317 j = I 317 j
section Years
variable {ν : Nt} {σ σ' : St} {I I' I'' : gI} {N n9 : Nat} {s s' d d' : Int32}
theorem FY.rf : FY I I := ⟨fun _ _ => rfl, fun _ _ => rfl, fun _ _ => rfl⟩
theorem FY.tr (h : FY I I') (h2 : FY I' I'') : FY I I'' := ⟨fun c hc => (h2.1 c hc).trans (h.1 c hc), fun j hj => (h2.2.1 j hj).trans (h.2.1 j hj), fun j hj => (h2.2.2 j hj).trans (h.2.2 j hj)⟩
theorem FY.fs (h : FS 82 I I') : FY I I' := ⟨h.1, fun j hj => h.2.1 j (fun h => hj (by simp at h ⊢; omega)), fun j hj => h.2.2 j (by omega)⟩
theorem FY.u47 (h : FY I I') {v : Int32} : FY I (upd2 I' 310 47 v) := ⟨fun c hc => (u2_c (fun e => hc (by simp [e]))).trans (h.1 c hc), fun j hj => by rw [u2_ne (fun e => hj (by simp [e.2]))]; exact h.2.1 j hj, fun i hi => by rw [u2_c (by decide)]; exact h.2.2 i hi⟩
theorem NetM.fy (h : NetM ν I) (hf : FY I I') : NetM ν I' := ⟨by rw [hf.2.1 13 (by simp)]; exact h.1, by rw [hf.2.1 14 (by simp)]; exact h.2.1, by rw [hf.2.1 15 (by simp)]; exact h.2.2.1, fun l hl j hj => by rw [hf.1 313 (by simp)]; exact h.2.2.2.1 l hl j hj, fun t ht j hj => by rw [hf.1 315 (by simp)]; exact h.2.2.2.2 t ht j hj⟩
theorem Sm.fy (h : FY I I') : Sm I I' := fun c j k => by
  by_cases h0 : c = 310
  · subst h0
    exact h.2.1 j (fun hj => by unfold Kp at k; simp at hj; omega)
  · by_cases h1 : c = 317
    · subst h1
      exact h.2.2 j (by unfold Kp at k; omega)
    · rw [h.1 c (fun hc => by unfold Kp at k; simp at hc; omega)]
theorem b_7f {i : Nat} (hi : i < 32) : bt 32767 i = decide (i < 15) := (by decide +kernel : ∀ i, i < 32 → bt 32767 i = decide (i < 15)) i hi
theorem drY_lt (s : Int32) : drY s < 32768 := mk9_lt 15
theorem dr_c (s : Int32) : (ushr s 16) &&& 32767 = nI (drY s) := by
  unfold drY
  apply b_ext
  intro i hi
  rw [b_and, b_7f hi, b_nI hi, mk9_tb, show ushr s 16 = (s.toUInt32 >>> ((nI 16).toUInt32 &&& Int32.toUInt32 31)).toInt32 from rfl, b_ushr 16 (by omega), Bool.and_comm]
theorem dr_m (s : Int32) : (s >>> ((16 : Int32) &&& 31)) &&& 32767 = nI (drY s) := by
  unfold drY
  apply b_ext
  intro i hi
  rw [b_and, b_7f hi, b_nI hi, mk9_tb, show (16 : Int32) = nI 16 from rfl, b_sshr 16 (by omega) s hi]
  by_cases h : i < 15
  · rw [if_pos (by omega)]; simp [h]
  · simp [h]
theorem dr_mod {y n : Nat} (hy : y < 32768) (h0 : 0 < n) (hn : n < 1000) : nI y - nI y / nI n * nI n = nI (y % n) := by
  rw [pk_div (by omega) h0 (by omega), nI_mul, nI_sub (Nat.div_mul_le_self y n)]
  congr 1
  have := Nat.div_add_mod y n
  rw [Nat.mul_comm] at this
  omega
theorem drw_lt {s : Int32} {n : Nat} (h : 0 < n) : drw s n < n := Nat.mod_lt _ h
theorem c_draw {n : Nat} (h0 : 0 < n) (hn : n < 1000) : mX9_draw n9 (nI n) I = some (nI (drw (nxt (I n9 2)) n), upd2 I n9 2 (nxt (I n9 2))) := by
  unfold mX9_draw
  rw [if_neg (nI_nle h0 (by omega)), u2_at, nm_n, nz_n (nI_ne0 h0 (by omega)), dr_c, dr_mod (drY_lt _) h0 hn]
  rfl
theorem m_draw {n : Nat} (h0 : 0 < n) (hn : n < 1000) : mX11_draw (nI n) I = some (nI (drw (nxt (I 310 47)) n), upd2 I 310 47 (nxt (I 310 47))) := by
  unfold mX11_draw
  rw [u2_at, nm_n, nz_n (nI_ne0 h0 (by omega)), nm_n, dr_m, dr_mod (drY_lt _) h0 hn]
  rfl
theorem Gd_mend (g : Gd ν σ) (x : Int32) : Gd ν (upS σ (σ.up ||| x)) := by
  refine ⟨fun t ht => ⟨(g.1 t ht).1, (g.1 t ht).2.1, ?_⟩, g.2⟩
  rcases (g.1 t ht).2.2 with h | h
  · exact Or.inl h
  · refine Or.inr ⟨h.1, h.2.1, h.2.2.1, fun l hl => ?_⟩
    have := h.2.2.2 l hl
    unfold opn at this ⊢
    rw [Bool.and_eq_true] at this ⊢
    refine ⟨?_, this.2⟩
    show bt (σ.up ||| x) l = true
    rw [b_or, this.1]
    rfl
theorem Ys1_gd (hn : WfN ν) (g : Gd ν σ) (h : Ys1 ν s σ d s' σ' d') : Gd ν σ' := by
  rcases h with ⟨-, -, -, rfl, -⟩ | ⟨-, h0, -, ⟨hu, c, hS, -⟩ | ⟨-, rfl, -⟩⟩ | ⟨-, -, -, rfl, -⟩ | ⟨-, -, -, ⟨-, rfl, -⟩ | ⟨-, -, c, hS, -⟩ | ⟨-, -, rfl, -⟩⟩
  · exact g
  · exact Stl_gd hn (Gd_brk hn g (drw_lt (by omega))) hS
  · exact Gd_mend g _
  · exact g
  · exact Gd_dp hn g _
  · exact Stl_gd hn g hS
  · exact g
theorem CS_up {u : Nat} {x : Int32} (hs : CS ν u σ I) : CS ν u (upS σ x) (upd2 I u 2 x) := ⟨u2_at, fun t ht => by rw [u2_c (by omega), u2_c (by omega)]; exact hs.2 t ht⟩
set_option maxHeartbeats 1000000 in
theorem c_pass (hn : WfN ν) (g : Gd ν σ) (hI : NetC ν I) (hs : CS ν 36 σ I) (h9 : 338 ≤ n9) (hN : 1000 ≤ N) (e2 : I n9 2 = s) (e3 : I n9 3 = d) : ∃ I' s' σ' d', mX9_pass N n9 I = some I' ∧ Ys1 ν s σ d s' σ' d' ∧ CS ν 36 σ' I' ∧ I' n9 2 = s' ∧ I' n9 3 = d' ∧ Fr [n9, 30, 31, 32, 33, 36, 37] I I' := by
  have htn := hn.2.2.2.1
  have hln := hn.2.2.1
  have hw := g.wf hn
  have d4 := c_draw (n9 := n9) (I := I) (n := 4) (by omega) (by omega)
  rw [e2] at d4
  obtain ⟨K, hK⟩ : ∃ K, K = upd2 I n9 2 (nxt s) := ⟨_, rfl⟩
  rw [← hK] at d4
  have fK : Fr [n9, 30, 31, 32, 33, 36, 37] I K := by rw [hK]; exact Fr.rf.u2 (by simp)
  have cK : NetC ν K := hI.fr (X := [n9]) (by rw [hK]; exact Fr.rf.u2 (by simp)) (by simp; omega)
  have sK : CS ν 36 σ K := hs.fr (X := [n9]) (by rw [hK]; exact Fr.rf.u2 (by simp)) (by simp; omega) (by simp; omega) (by simp; omega)
  have k2 : K n9 2 = nxt s := by rw [hK, u2_at]
  have k3 : K n9 3 = d := by rw [hK, u2_ne (by omega)]; exact e3
  have hk4 : drw (nxt s) 4 < 4 := drw_lt (by omega)
  obtain ⟨k, hk⟩ : ∃ k, k = drw (nxt s) 4 := ⟨_, rfl⟩
  rw [← hk] at d4 hk4
  obtain ⟨L, hL⟩ : ∃ L, L = upd2 K n9 2 (nxt (nxt s)) := ⟨_, rfl⟩
  have fL : Fr [n9, 30, 31, 32, 33, 36, 37] I L := by rw [hL]; exact fK.u2 (by simp)
  have cL : NetC ν L := cK.fr (X := [n9]) (by rw [hL]; exact Fr.rf.u2 (by simp)) (by simp; omega)
  have sL : CS ν 36 σ L := sK.fr (X := [n9]) (by rw [hL]; exact Fr.rf.u2 (by simp)) (by simp; omega) (by simp; omega) (by simp; omega)
  have l2 : L n9 2 = nxt (nxt s) := by rw [hL, u2_at]
  have l3 : L n9 3 = d := by rw [hL, u2_ne (by omega)]; exact k3
  have dL : ∀ n, 0 < n → n < 1000 → mX9_draw n9 (nI n) K = some (nI (drw (nxt (nxt s)) n), L) := fun n h0 hn' => by rw [c_draw h0 hn', k2, ← hL]
  by_cases h3 : k = 3
  · by_cases hz : ν.ln = 0
    · refine ⟨K, nxt s, σ, d, ?_, Or.inl ⟨by omega, hz, rfl, rfl, rfl⟩, sK, k2, k3, fK⟩
      unfold mX9_pass
      rw [show mX9_draw n9 4 I = _ from d4, ob_some]
      dsimp only
      rw [if_pos (show nI k = 3 by rw [h3]; rfl), cK.2.1, if_pos (by rw [hz]; decide)]
    · have hl : drw (nxt (nxt s)) ν.ln < ν.ln := drw_lt (by omega)
      have base : mX9_pass N n9 I = Option.bind (mX9_turnLink N n9 (nI (drw (nxt (nxt s)) ν.ln)) L) (fun I21 => some I21) := by
        unfold mX9_pass
        rw [show mX9_draw n9 4 I = _ from d4, ob_some]
        dsimp only
        rw [if_pos (show nI k = 3 by rw [h3]; rfl), cK.2.1, if_neg (nI_nle (by omega) (by omega)), dL _ (by omega) (by omega), ob_some]
      cases hu : bt σ.up (drw (nxt (nxt s)) ν.ln) with
      | true =>
        obtain ⟨I5, e5, f5, s5⟩ := c_break (N := N) (u := 36) hn cL sL hw (by omega) (by omega) hl
        obtain ⟨c, σ', I6, e6, hS, s6, g6, f6, -, -⟩ := c_settle (N := N) (u := 36) hn hN (by omega) (Gd_brk hn g hl) (cL.fr f5 (by simp)) s5 (mk9_lt _)
        have f6' : Fr [n9, 30, 31, 32, 33, 36, 37] I I6 := (fL.tr (f5.mono (by simp))).tr (f6.mono (by simp))
        have k6 : ∀ j, I6 n9 j = L n9 j := fun j => by rw [f6 n9 (by simp; omega), f5 n9 (by simp; omega)]
        refine ⟨upd2 I6 n9 3 (d + nI c), nxt (nxt s), σ', d + nI c, ?_, Or.inr (Or.inl ⟨by omega, hz, rfl, Or.inl ⟨hu, c, hS, rfl⟩⟩), s6.fr (X := [n9]) (Fr.rf.u2 (by simp)) (by simp; omega) (by simp; omega) (by simp; omega), by rw [u2_ne (by omega), k6, l2], u2_at, f6'.u2 (by simp)⟩
        rw [base]
        unfold mX9_turnLink
        rw [show L 36 2 = σ.up from sL.1, if_neg (fun h => by rw [cb0 (by omega), hu] at h; cases h), e5, ob_some]
        dsimp only
        rw [e6, ob_some]
        dsimp only
        rw [l3, ob_some]
      | false =>
        refine ⟨upd2 L 36 2 (σ.up ||| ((1 : Int32) <<< (nI (drw (nxt (nxt s)) ν.ln) &&& 31))), nxt (nxt s), _, d, ?_, Or.inr (Or.inl ⟨by omega, hz, rfl, Or.inr ⟨hu, rfl, rfl⟩⟩), CS_up sL, by rw [u2_c (by omega), l2], by rw [u2_c (by omega), l3], fL.u2 (by simp)⟩
        rw [base]
        unfold mX9_turnLink
        rw [show L 36 2 = σ.up from sL.1, if_pos ((cb0 (by omega) _).mpr hu), ob_some]
  · have hn3 : ¬ nI k = 3 := fun h => h3 ((nI_eq (b := 3) (by omega) (by omega)).mp h)
    by_cases hz : ν.tn = 0
    · refine ⟨K, nxt s, σ, d, ?_, Or.inr (Or.inr (Or.inl ⟨by omega, hz, rfl, rfl, rfl⟩)), sK, k2, k3, fK⟩
      unfold mX9_pass
      rw [show mX9_draw n9 4 I = _ from d4, ob_some]
      dsimp only
      rw [if_neg hn3, cK.2.2.1, if_pos (by rw [hz]; decide)]
    · obtain ⟨t, htt⟩ : ∃ t, t = drw (nxt (nxt s)) ν.tn := ⟨_, rfl⟩
      have ht : t < ν.tn := by rw [htt]; exact drw_lt (by omega)
      have hpow2 : (2 : Nat) ^ t < 2 ^ ν.tn := Nat.pow_lt_pow_right (by decide) ht
      have base : mX9_pass N n9 I = if nI k = 2 then (Option.bind (mX2_drop N 36 (nI (2 ^ t)) L) (fun I15 => some I15)) else (if wb (σ.w t) = 0 then (Option.bind (mX2_settle N 36 (nI (2 ^ t)) L) (fun (r12, I13) => some (upd2 I13 n9 3 (d + r12)))) else (some L)) := by
        unfold mX9_pass
        rw [show mX9_draw n9 4 I = _ from d4, ob_some]
        dsimp only
        rw [if_neg hn3, cK.2.2.1, if_neg (nI_nle (by omega) (by omega)), dL _ (by omega) (by omega), ob_some]
        dsimp only
        rw [← htt, ck_n (by omega) (by decide), nI_clamp (by omega), l3, sh1_n t (by omega)]
        have h37 : L 37 t = wb (σ.w t) := (sL.2 t ht).1
        by_cases hw0 : wb (σ.w t) = 0
        · rw [if_pos hw0, if_pos (show L 37 t = 0 by rw [h37]; exact hw0)]
        · rw [if_neg hw0, if_neg (show ¬ L 37 t = 0 by rw [h37]; exact hw0)]
      by_cases h2 : k = 2
      · obtain ⟨I5, e5, f5, s5⟩ := c_drop (N := N) (u := 36) hn cL sL (by omega) (by omega) (2 ^ t)
        refine ⟨I5, nxt (nxt s), _, d, ?_, Or.inr (Or.inr (Or.inr ⟨by omega, hz, rfl, Or.inl ⟨by omega, by rw [← htt], rfl⟩⟩)), s5, by rw [f5 n9 (by simp; omega), l2], by rw [f5 n9 (by simp; omega), l3], fL.tr (f5.mono (by simp))⟩
        rw [base, if_pos (show nI k = 2 by rw [h2]; rfl), e5, ob_some]
      · have hn2 : ¬ nI k = 2 := fun h => h2 ((nI_eq (b := 2) (by omega) (by omega)).mp h)
        by_cases hst : σ.w t = []
        · obtain ⟨c, σ', I6, e6, hS, s6, g6, f6, -, -⟩ := c_settle (N := N) (u := 36) hn hN (by omega) g cL sL hpow2
          have k6 : ∀ j, I6 n9 j = L n9 j := fun j => by rw [f6 n9 (by simp; omega)]
          refine ⟨upd2 I6 n9 3 (d + nI c), nxt (nxt s), σ', d + nI c, ?_, Or.inr (Or.inr (Or.inr ⟨by omega, hz, rfl, Or.inr (Or.inl ⟨by omega, by rw [← htt]; exact hst, c, by rw [← htt]; exact hS, rfl⟩)⟩)), s6.fr (X := [n9]) (Fr.rf.u2 (by simp)) (by simp; omega) (by simp; omega) (by simp; omega), by rw [u2_ne (by omega), k6, l2], u2_at, (fL.tr (f6.mono (by simp))).u2 (by simp)⟩
          rw [base, if_neg hn2, if_pos (by rw [hst]; rfl), e6, ob_some]
        · refine ⟨L, nxt (nxt s), σ, d, ?_, Or.inr (Or.inr (Or.inr ⟨by omega, hz, rfl, Or.inr (Or.inr ⟨by omega, by rw [← htt]; exact hst, rfl, rfl⟩)⟩)), sL, l2, l3, fL⟩
          rw [base, if_neg hn2, if_neg (fun h => hst ((wb_0 hn (hw t ht).2.2).mp h))]
theorem Stl_0 : ∀ {n : Nat} {σ : St} {c : Nat} {σ' : St}, Stl ν n 0 σ c σ' → c = 0 ∧ σ' = σ
  | 0, σ, c, σ', h => h.2
  | n + 1, σ, c, σ', h => by
    rcases h with h | ⟨h, -⟩
    · exact h.2
    · exact absurd rfl h
set_option maxHeartbeats 1000000 in
theorem m_happ (hn : WfN ν) (g : Gd ν σ) (hI : NetM ν I) (hs : MS ν 317 82 σ I) (hN : 100000000000 ≤ N) (e2 : I 310 47 = s) (e3 : I 310 36 = d) (hY : Ys1 ν s σ d s' σ' d') : ∃ I', mX11_happens N I = some I' ∧ MS ν 317 82 σ' I' ∧ I' 310 47 = s' ∧ I' 310 36 = d' ∧ FY I I' := by
  have htn := hn.2.2.2.1
  have hln := hn.2.2.1
  have hw := g.wf hn
  have e82 : (82 : Int32).toNatClampNeg = 82 := by decide
  have d4 := m_draw (I := I) (n := 4) (by omega) (by omega)
  rw [e2] at d4
  obtain ⟨K, hK⟩ : ∃ K, K = upd2 I 310 47 (nxt s) := ⟨_, rfl⟩
  rw [← hK] at d4
  have fK : FY I K := by rw [hK]; exact FY.rf.u47
  have cK : NetM ν K := hI.fy fK
  have sK : MS ν 317 82 σ K := hs.c (by rw [hK, u2_c (by decide)])
  have k2 : K 310 47 = nxt s := by rw [hK, u2_at]
  have k3 : K 310 36 = d := by rw [hK, u2_ne (by omega)]; exact e3
  have hk4 : drw (nxt s) 4 < 4 := drw_lt (by omega)
  obtain ⟨k, hk⟩ : ∃ k, k = drw (nxt s) 4 := ⟨_, rfl⟩
  rw [← hk] at d4 hk4
  unfold Ys1 at hY
  rw [← hk] at hY
  obtain ⟨L, hL⟩ : ∃ L, L = upd2 K 310 47 (nxt (nxt s)) := ⟨_, rfl⟩
  have fL : FY I L := by rw [hL]; exact fK.u47
  have cL : NetM ν L := hI.fy fL
  have sL : MS ν 317 82 σ L := sK.c (by rw [hL, u2_c (by decide)])
  have l2 : L 310 47 = nxt (nxt s) := by rw [hL, u2_at]
  have l3 : L 310 36 = d := by rw [hL, u2_ne (by omega)]; exact k3
  have dL : ∀ n, 0 < n → n < 1000 → mX11_draw (nI n) K = some (nI (drw (nxt (nxt s)) n), L) := fun n h0 hn' => by rw [m_draw h0 hn', k2, ← hL]
  by_cases h3 : k = 3
  · have h3' : (3 : Int32) ≤ nI k := by rw [h3]; decide
    by_cases hz : ν.ln = 0
    · obtain ⟨rfl, rfl, rfl⟩ : s' = nxt s ∧ σ' = σ ∧ d' = d := by
        rcases hY with ⟨-, -, h⟩ | ⟨-, h, -⟩ | ⟨h, -⟩ | ⟨h, -⟩
        · exact h
        · exact absurd hz h
        · exact absurd h3 h
        · exact absurd h3 h
      refine ⟨K, ?_, sK, k2, k3, fK⟩
      unfold mX11_happens
      rw [show mX11_draw 4 I = _ from d4, ob_some]
      dsimp only
      rw [if_pos h3', cK.2.1, if_pos (show nI ν.ln = 0 by rw [hz]; rfl)]
    · obtain ⟨l, hll⟩ : ∃ l, l = drw (nxt (nxt s)) ν.ln := ⟨_, rfl⟩
      have hl : l < ν.ln := by rw [hll]; exact drw_lt (by omega)
      have base : mX11_happens N I = Option.bind (mX11_isUp 82 (nI l) L) (fun r13 => if r13 = 0 then (nm ((L 317 (82 : Int32).toNatClampNeg) ||| ((1 : Int32) <<< (nI l &&& 31))) (fun x16 => some (upd2 L 317 (82 : Int32).toNatClampNeg x16))) else (Option.bind (mX11_fails N 82 (nI l) L) (fun I18 => some I18))) := by
        unfold mX11_happens
        rw [show mX11_draw 4 I = _ from d4, ob_some]
        dsimp only
        rw [if_pos h3', cK.2.1, if_neg (nI_ne0 (by omega) (by omega)), if_pos h3', ob_some, dL _ (by omega) (by omega), ob_some]
        dsimp only
        rw [← hll, if_pos (show (2 : Int32) ≤ nI k by rw [h3]; decide), if_neg (show ¬ nI k = 2 by rw [h3]; decide)]
      have hh : s' = nxt (nxt s) ∧ ((bt σ.up l = true ∧ ∃ c, Stl ν 9 (mk9 (onS σ l) ν.tn) (brk ν σ l) c σ' ∧ d' = d + nI c) ∨ (bt σ.up l = false ∧ σ' = upS σ (σ.up ||| ((1 : Int32) <<< (nI l &&& 31))) ∧ d' = d)) := by
        rcases hY with ⟨-, h, -⟩ | ⟨-, -, h⟩ | ⟨h, -⟩ | ⟨h, -⟩
        · exact absurd h hz
        · rw [← hll] at h; exact h
        · exact absurd h3 h
        · exact absurd h3 h
      obtain ⟨rfl, ⟨hu, c, hS, rfl⟩ | ⟨hu, rfl, rfl⟩⟩ := hh
      · obtain ⟨I5, e5, s5, f5, p5⟩ := m_fails2 (N := N) (b := 82) hn hN (by omega) hl g cL sL hS
        refine ⟨I5, ?_, s5, by rw [f5.2.1 47 (by simp), l2], by rw [p5, l3], fL.tr (FY.fs f5)⟩
        rw [base, show mX11_isUp 82 (nI l) L = _ from m_up (b := 82) sL (by omega) (by omega), hu, ob_some, if_pos (show true = true from rfl), if_neg (show ¬ (1 : Int32) = 0 by decide), show mX11_fails N 82 (nI l) L = some I5 from e5, ob_some]
      · refine ⟨upd2 L 317 82 (σ.up ||| ((1 : Int32) <<< (nI l &&& 31))), ?_, MS_up sL, by rw [u2_c (by decide), l2], by rw [u2_c (by decide), l3], fL.tr (FY.fs (FS.rf.u (by omega) (by omega)))⟩
        rw [base, show mX11_isUp 82 (nI l) L = _ from m_up (b := 82) sL (by omega) (by omega), hu, ob_some, if_neg (show ¬ false = true by decide), if_pos (show (0 : Int32) = 0 from rfl), e82, nm_n, show L 317 82 = σ.up from sL.1]
  · have hn3 : ¬ (3 : Int32) ≤ nI k := nI_ge (b := 3) (by omega) (by omega)
    by_cases hz : ν.tn = 0
    · obtain ⟨rfl, rfl, rfl⟩ : s' = nxt s ∧ σ' = σ ∧ d' = d := by
        rcases hY with ⟨h, -⟩ | ⟨h, -⟩ | ⟨-, -, h⟩ | ⟨-, h, -⟩
        · exact absurd h h3
        · exact absurd h h3
        · exact h
        · exact absurd hz h
      refine ⟨K, ?_, sK, k2, k3, fK⟩
      unfold mX11_happens
      rw [show mX11_draw 4 I = _ from d4, ob_some]
      dsimp only
      rw [if_neg hn3, cK.2.2.1, if_pos (show nI ν.tn = 0 by rw [hz]; rfl)]
    · obtain ⟨t, htt⟩ : ∃ t, t = drw (nxt (nxt s)) ν.tn := ⟨_, rfl⟩
      have ht : t < ν.tn := by rw [htt]; exact drw_lt (by omega)
      have hpow2 : (2 : Nat) ^ t < 2 ^ ν.tn := Nat.pow_lt_pow_right (by decide) ht
      have base : mX11_happens N I = if (2 : Int32) ≤ nI k then (if nI k = 2 then (ck (92 + nI t) 164 (some (upd2 L 317 (92 + nI t).toNatClampNeg (-1)))) else (Option.bind (mX11_isUp 82 (nI t) L) (fun r40 => if r40 = 0 then (nm ((L 317 (82 : Int32).toNatClampNeg) ||| ((1 : Int32) <<< (nI t &&& 31))) (fun x43 => some (upd2 L 317 (82 : Int32).toNatClampNeg x43))) else (Option.bind (mX11_fails N 82 (nI t) L) (fun I45 => some I45))))) else (Option.bind (mX11_doesStand 82 (nI t) L) (fun r48 => if r48 = 0 then (ck (83 + nI t) 164 (Option.bind (mX11_hasBest N 82 (nI t) (L 317 (83 + nI t).toNatClampNeg) L) (fun (r52, I53) => if r52 = 0 then (some I53) else (Option.bind (mX11_settles N 82 ((1 : Int32) <<< (nI t &&& 31)) I53) (fun I56 => some I56))))) else (some L))) := by
        unfold mX11_happens
        rw [show mX11_draw 4 I = _ from d4, ob_some]
        dsimp only
        rw [if_neg hn3, cK.2.2.1, if_neg (nI_ne0 (by omega) (by omega)), if_neg hn3, ob_some, dL _ (by omega) (by omega), ob_some]
        dsimp only
        rw [← htt]
      have hh : s' = nxt (nxt s) ∧ ((k = 2 ∧ σ' = dpW σ (2 ^ t) ∧ d' = d) ∨ (k ≠ 2 ∧ σ.w t = [] ∧ ∃ c, Stl ν 9 (2 ^ t) σ c σ' ∧ d' = d + nI c) ∨ (k ≠ 2 ∧ σ.w t ≠ [] ∧ σ' = σ ∧ d' = d)) := by
        rcases hY with ⟨h, -⟩ | ⟨h, -⟩ | ⟨-, h, -⟩ | ⟨-, -, h⟩
        · exact absurd h h3
        · exact absurd h h3
        · exact absurd h hz
        · rw [← htt] at h; exact h
      have est : mX11_doesStand 82 (nI t) L = some (if σ.w t = [] then 0 else 1) := m_stand (b := 82) hn sL hw (by omega) ht
      have i92 : (92 : Int32) + nI t = nI (82 + 10 + t) := by rw [show (92 : Int32) = nI 92 from rfl, nI_add]
      have i83 : (83 : Int32) + nI t = nI (82 + 1 + t) := by rw [show (83 : Int32) = nI 83 from rfl, nI_add]
      obtain ⟨rfl, ⟨h2, rfl, rfl⟩ | ⟨h2, hst, c, hS, rfl⟩ | ⟨h2, hst, rfl, rfl⟩⟩ := hh
      · refine ⟨upd2 L 317 (82 + 10 + t) (-1), ?_, by rw [← st_dp]; exact ms_off hn hw sL ht, by rw [u2_c (by decide), l2], by rw [u2_c (by decide), l3], fL.tr (FY.fs (FS.rf.u (by omega) (by omega)))⟩
        rw [base, if_pos (show (2 : Int32) ≤ nI k by rw [h2]; decide), if_pos (show nI k = 2 by rw [h2]; rfl), i92, ck_n (by omega) (by decide), nI_clamp (by omega)]
      · have hn2 : ¬ (2 : Int32) ≤ nI k := nI_ge (b := 2) (by omega) (by omega)
        obtain ⟨I5, q, hq, f5, hres⟩ := m_hasBest (N := N) (b := 82) hn cL sL hw (by omega) hN ht (g.1 t ht).2.1
        have base2 : mX11_happens N I = Option.bind (mX11_hasBest N 82 (nI t) (nI (σ.bd t)) L) (fun (r52, I53) => if r52 = 0 then (some I53) else (Option.bind (mX11_settles N 82 (nI (2 ^ t)) I53) (fun I56 => some I56))) := by
          rw [base, if_neg hn2, est, if_pos hst, ob_some, if_pos (show (0 : Int32) = 0 from rfl), i83, ck_n (by omega) (by decide), nI_clamp (by omega), (sL.2 t ht).1, sh1_n t (by omega)]
        rcases hres with ⟨hne, e5, -⟩ | ⟨he, e5, -⟩
        · obtain ⟨I6, e6, s6, f6, p6⟩ := m_settle (N := N) (b := 82) hn hN (by omega) g (cL.fb f5) (sL.c (f5.1 317 (by simp)) : MS ν 317 82 σ I5) hpow2 hS
          have f56 : FS 82 L I6 := (FS.fb f5).tr f6
          refine ⟨I6, ?_, s6, by rw [f56.2.1 47 (by simp), l2], by rw [p6, f5.2 36 (by simp), l3], fL.tr (FY.fs f56)⟩
          rw [base2, show mX11_hasBest N 82 (nI t) (nI (σ.bd t)) L = some (1, I5) from e5, ob_some]
          dsimp only
          rw [if_neg (show ¬ (1 : Int32) = 0 by decide), show mX11_settles N 82 (nI (2 ^ t)) I5 = some I6 from e6, ob_some]
        · have hpos : 0 < (2 : Nat) ^ t := Nat.pow_pos (by decide)
          obtain ⟨rfl, rfl⟩ : c = 0 ∧ σ' = σ := by
            rcases hS with ⟨h, -⟩ | ⟨-, t', q', ht', hq', h⟩
            · omega
            · obtain rfl := stg_one (stg_one_t ht) ht'
              obtain rfl := bst_one hn ht hq hq'
              rcases h with ⟨-, h⟩ | ⟨h, -⟩
              · rw [clr_one] at h; exact Stl_0 h
              · exact absurd he h
          refine ⟨I5, ?_, sL.c (f5.1 317 (by simp)), by rw [f5.2 47 (by simp), l2], by rw [f5.2 36 (by simp), l3, nI_0', z_add], fL.tr (FY.fs (FS.fb f5))⟩
          rw [base2, show mX11_hasBest N 82 (nI t) (nI (σ'.bd t)) L = some (0, I5) from e5, ob_some]
          dsimp only
          rw [if_pos rfl]
      · have hn2 : ¬ (2 : Int32) ≤ nI k := nI_ge (b := 2) (by omega) (by omega)
        refine ⟨L, ?_, sL, l2, l3, fL⟩
        rw [base, if_neg hn2, est, if_neg hst, ob_some, if_neg (show ¬ (1 : Int32) = 0 by decide)]
end Years
section YearsS
variable {N : Nat}
theorem c_y73 {ν : Nt} {σ : St} {I : gI} {n9 n : Nat} {J : gJ} {k3 s d : Int32} (hn : WfN ν) (g : Gd ν σ) (hI : NetC ν I) (hs : CS ν 36 σ I) (h9 : 338 ≤ n9) (hN : 1000 ≤ N) (hm : n ≤ 60) (e2 : I n9 2 = s) (e3 : I n9 3 = d) : ∃ I' s' σ' d', mX10_years_73 N n9 (nI n) k3 J N 0 I = some I' ∧ Ys ν n s σ d s' σ' d' ∧ Gd ν σ' ∧ CS ν 36 σ' I' ∧ I' n9 3 = d' ∧ Fr [n9, 30, 31, 32, 33, 36, 37] I I' := by
  obtain ⟨I', hP, e⟩ := loopP (F := fun m s i => mX10_years_73 N n9 (nI n) k3 J m i s) (b := n) (out := id)
    (P := fun k K => Fr [n9, 30, 31, 32, 33, 36, 37] I K ∧ ∃ s' σ' d', Ys ν k s σ d s' σ' d' ∧ Gd ν σ' ∧ CS ν 36 σ' K ∧ K n9 2 = s' ∧ K n9 3 = d')
    (fun m K hP => by
      show mX10_years_73 N n9 (nI n) k3 J (m + 1) (nI n) K = some K
      rw [mX10_years_73, if_pos (nI_le (Nat.le_refl _) (by omega))])
    (fun m k K hk hP => by
      obtain ⟨f, s', σ', d', hY, g', cs, k2, k3'⟩ := hP
      obtain ⟨K', s2, σ2, d2, e, hY2, cs2, j2, j3, f2⟩ := c_pass (N := N) hn g' (hI.fr f (by simp; omega)) cs h9 hN k2 k3'
      refine ⟨K', ?_, f.tr f2, s2, σ2, d2, ⟨s', σ', d', hY, hY2⟩, Ys1_gd hn g' hY2, cs2, j2, j3⟩
      show mX10_years_73 N n9 (nI n) k3 J (m + 1) (nI k) K = _
      rw [mX10_years_73, if_neg (nI_ge hk (by omega)), e, ob_some, nI_1])
    N 0 I (Nat.zero_le _) (by omega) ⟨Fr.rf, s, σ, d, ⟨rfl, rfl, rfl⟩, g, hs, e2, e3⟩
  obtain ⟨f, s', σ', d', hY, g', cs, k2, k3'⟩ := hP
  exact ⟨I', s', σ', d', e, hY, g', cs, k3', f⟩
theorem Ys_gd {ν : Nt} (hn : WfN ν) : ∀ {n : Nat} {s : Int32} {σ : St} {d s' : Int32} {σ' : St} {d' : Int32}, Gd ν σ → Ys ν n s σ d s' σ' d' → Gd ν σ'
  | 0, s, σ, d, s', σ', d', g, h => by rw [h.2.1]; exact g
  | n + 1, s, σ, d, s', σ', d', g, ⟨s1, σ1, d1, h1, h2⟩ => Ys1_gd hn (Ys_gd hn g h1) h2
theorem Ys_pre {ν : Nt} : ∀ {n : Nat} {s : Int32} {σ : St} {d s' : Int32} {σ' : St} {d' : Int32}, Ys ν n s σ d s' σ' d' → ∃ f : Nat → Int32 × St × Int32, f 0 = (s, σ, d) ∧ f n = (s', σ', d') ∧ (∀ k, k < n → Ys1 ν (f k).1 (f k).2.1 (f k).2.2 (f (k + 1)).1 (f (k + 1)).2.1 (f (k + 1)).2.2)
  | 0, s, σ, d, s', σ', d', h => ⟨fun _ => (s, σ, d), rfl, by rw [h.1, h.2.1, h.2.2], fun k hk => by omega⟩
  | n + 1, s, σ, d, s', σ', d', ⟨s1, σ1, d1, h1, h2⟩ => by
    obtain ⟨f, f0, fn, fs⟩ := Ys_pre h1
    obtain ⟨F, hF⟩ : ∃ F : Nat → Int32 × St × Int32, ∀ k, F k = if k = n + 1 then (s', σ', d') else f k := ⟨_, fun _ => rfl⟩
    refine ⟨F, by rw [hF, if_neg (by omega)]; exact f0, by rw [hF, if_pos rfl], fun k hk => ?_⟩
    by_cases e : k = n
    · subst e
      rw [hF k, if_neg (by omega), hF (k + 1), if_pos rfl, fn]
      exact h2
    · rw [hF k, if_neg (by omega), hF (k + 1), if_neg (by omega)]
      exact fs k (by omega)
theorem m_y48 {ν : Nt} {σ σ' : St} {I : gI} {n : Nat} {k3 s d s' d' : Int32} (hn : WfN ν) (g : Gd ν σ) (hI : NetM ν I) (hs : MS ν 317 82 σ I) (hN : 100000000000 ≤ N) (hm : n ≤ 60) (e2 : I 310 47 = s) (e3 : I 310 36 = d) (hY : Ys ν n s σ d s' σ' d') : ∃ I', mX11_years_48 N (nI n) k3 N 0 I = some I' ∧ MS ν 317 82 σ' I' ∧ I' 310 36 = d' ∧ FY I I' := by
  obtain ⟨f, f0, fn, fs⟩ := Ys_pre hY
  obtain ⟨I', hP, e⟩ := loopP (F := fun m s i => mX11_years_48 N (nI n) k3 m i s) (b := n) (out := id)
    (P := fun k K => k ≤ n ∧ FY I K ∧ Gd ν (f k).2.1 ∧ MS ν 317 82 (f k).2.1 K ∧ K 310 47 = (f k).1 ∧ K 310 36 = (f k).2.2)
    (fun m K hP => by
      show mX11_years_48 N (nI n) k3 (m + 1) (nI n) K = some K
      rw [mX11_years_48, if_pos (nI_le (Nat.le_refl _) (by omega))])
    (fun m k K hk hP => by
      obtain ⟨-, fy, g', cs, k2, k3'⟩ := hP
      obtain ⟨K', e, cs2, j2, j3, f2⟩ := m_happ (N := N) hn g' (hI.fy fy) cs hN k2 k3' (fs k hk)
      refine ⟨K', ?_, by omega, fy.tr f2, Ys1_gd hn g' (fs k hk), cs2, j2, j3⟩
      show mX11_years_48 N (nI n) k3 (m + 1) (nI k) K = _
      rw [mX11_years_48, if_neg (nI_ge hk (by omega)), e, ob_some, nI_1])
    N 0 I (Nat.zero_le _) (by omega) ⟨Nat.zero_le _, FY.rf, by rw [f0]; exact g, by rw [f0]; exact hs, by rw [f0]; exact e2, by rw [f0]; exact e3⟩
  obtain ⟨-, fy, -, cs, -, k3'⟩ := hP
  rw [fn] at cs k3'
  exact ⟨I', e, cs, k3', fy⟩
set_option maxHeartbeats 2000000 in
theorem s_years (hN : 100000000000 ≤ N) : St_years N Inv := by
  intro c I J n9 a1 a2 a3 hc hInv h9
  obtain ⟨⟨ν, σ, ks, vs, hP⟩, mv⟩ := id hInv
  obtain ⟨hn, g, c1, m1, c2, m2, ac, sg, im, tp, ct⟩ := id hP
  have htn := hn.2.2.2.1
  have hww := g.wf hn
  have s0 : ∀ {K : gI}, Sm K (upd2 K 310 0 0) := Sm.rf.u0
  have m1' : NetM ν (upd2 I 310 0 0) := m1.sm s0
  rcases wi_ck (lo := 0) (hi := 2) (by omega) (by omega) a3 with ⟨p, -, hp, rfl, eW⟩ | ⟨hno, eW⟩
  · have hC1 : ¬ nI p < 0 := nI_pos (by omega)
    have hC2 : nI p ≤ 2 := nI_le (b := 2) hp (by omega)
    have baseM : ∀ (K : gI) x, mX11_within a2 0 60 (upd2 K 310 0 0) = some x → mX11_years N a1 a2 (nI p) K = Option.bind (mX11_right x 2 (upd2 K 310 0 0)) (fun (r7, I8) => if r7 = 0 then (some (0, I8)) else (Option.bind (mX11_tries N I8) (fun I11 => Option.bind (mX11_years_48 N a2 (nI p) N 0 (upd2 (upd2 I11 310 47 a1) 310 36 0)) (fun I16 => if nI p = 0 then (Option.bind (mX11_standing N 82 I16) (fun r21 => Option.bind (mX11_bits N r21 I16) (fun r23 => some (r23, I16)))) else (if nI p = 1 then (some (I16 310 36, I16)) else (Option.bind (mX11_takenAll N 82 I16) (fun r19 => some (r19, I16)))))))) := by
      intro K x hx
      unfold mX11_years mX11_isWhat
      rw [show mX11_within (nI p) 0 2 (upd2 K 310 0 0) = some 1 from eW _, ob_some, m_right1 u2_at, ob_some]
      dsimp only
      rw [zo_1, ob_some]
      dsimp only
      rw [if_neg (show ¬ (1 : Int32) = 0 by decide), hx, ob_some]
    rcases wi_ck (lo := 0) (hi := 60) (by omega) (by omega) a2 with ⟨n, -, hn60, rfl, eN⟩ | ⟨hno2, eN⟩
    · obtain ⟨I5, e5, f5, cs5⟩ := c_copy (N := N) (u := 39) (w := 36) hn (by omega) (by omega) c2
      have cs5' := c2.fr f5 (by simp) (by simp) (by simp)
      obtain ⟨K, hK⟩ : ∃ K, K = upd2 (newI I5 n9) n9 2 a1 := ⟨_, rfl⟩
      have fK0 : Fr [n9] I5 K := by
        intro a ha
        rw [hK, u2_c (fun e => ha (by simp [e]))]
        funext b
        show (if a = n9 then 0 else I5 a b) = _
        rw [if_neg (fun e => ha (by simp [e]))]
      have k2 : K n9 2 = a1 := by rw [hK, u2_at]
      have k3 : K n9 3 = 0 := by
        rw [hK, u2_ne (by omega)]
        show (if n9 = n9 then 0 else I5 n9 3) = _
        rw [if_pos rfl]
      have c5 := c1.fr f5 (by simp)
      obtain ⟨I10, s', σ', d', e10, hY, g10, cs10, d10, f10⟩ := c_y73 (N := N) (n := n) (J := newJ J n9) (k3 := nI p) hn g (c5.fr fK0 (by simp; omega)) (cs5'.fr fK0 (by simp; omega) (by simp; omega) (by simp; omega)) h9 (by omega) hn60 k2 k3
      have cs39 : CS ν 39 σ I10 := (cs5.fr fK0 (by simp; omega) (by simp; omega) (by simp; omega)).fr f10 (by simp; omega) (by simp; omega) (by simp; omega)
      obtain ⟨I20, e20, f20, cs20⟩ := c_copy (N := N) (u := 36) (w := 39) hn (by omega) (by omega) cs39
      have c10 : NetC ν I10 := (c5.fr fK0 (by simp; omega)).fr f10 (by simp; omega)
      have fAll : Fr (n9 :: [30, 31, 32, 33, 36, 37, 38, 39, 40, 41]) I I20 := (((f5.mono (by simp)).tr (fK0.mono (by simp))).tr (f10.mono (by simp))).tr (f20.mono (by simp))
      have h20 := ask_ref9 hP h9 fAll (by simp [sc])
      have m20' : NetM ν (upd2 I20 310 0 0) := h20.2.1.sm s0
      have s20' : MS ν 317 0 σ (upd2 I20 310 0 0) := h20.2.2.c (u2_c (by decide))
      obtain ⟨I11, e11, f11, z11, s11⟩ := m_tries (N := N) hn hww (by omega) s20'
      have fy1 : FY (upd2 I20 310 0 0) (upd2 (upd2 I11 310 47 a1) 310 36 0) := by
        have a1' : FY (upd2 I20 310 0 0) (upd2 I11 310 47 a1) := (FY.fs f11).u47
        exact ⟨fun c hc => (u2_c (fun e => hc (by simp [e]))).trans (a1'.1 c hc), fun j hj => by rw [u2_ne (fun e => hj (by simp [e.2]))]; exact a1'.2.1 j hj, fun i hi => by rw [u2_c (by decide)]; exact a1'.2.2 i hi⟩
      obtain ⟨I16, e16, s16, d16, fy2⟩ := m_y48 (N := N) (n := n) (k3 := nI p) hn g (m20'.fy fy1) (s11.c (by rw [u2_c (by decide), u2_c (by decide)]) : MS ν 317 82 σ (upd2 (upd2 I11 310 47 a1) 310 36 0)) hN hn60 (by rw [u2_ne (by omega), u2_at]) u2_at hY
      have fy := fy1.tr fy2
      have m16 := m20'.fy fy
      have hInv' : Inv (c + 1) I16 := ask_fin9 hP mv h9 fAll (by simp [sc]) cs20 (s0.tr (Sm.fy fy))
      have z16 : I16 310 0 = 0 := by rw [fy.2.1 0 (by simp), u2_at]
      have hw' := g10.wf hn
      have fin : ∀ r : Int32, (if nI p = 0 then (Option.bind (mX2_standing N 36 I10) (fun r16 => Option.bind (mJ6_bitCount_0f7a4 r16 I10) (fun r18 => some r18))) else (if nI p = 2 then (Option.bind (mX2_takenOfAll N 36 I10) (fun r14 => some r14)) else (some (I10 n9 3))) : Option (Int32)) = some r → (if nI p = 0 then (Option.bind (mX11_standing N 82 I16) (fun r21 => Option.bind (mX11_bits N r21 I16) (fun r23 => some (r23, I16)))) else (if nI p = 1 then (some (I16 310 36, I16)) else (Option.bind (mX11_takenAll N 82 I16) (fun r19 => some (r19, I16))))) = some (r, I16) → ∃ (rv : Int32 ⊕ String) (I1 : gI) (J1 : gJ) (bb : Int32) (I2 : gI), mX10_years N n9 a1 (nI n) (nI p) I J = some (rv, I1, J1) ∧ (∀ E, rv = .inr E → E = xnN ∨ E = xnA) ∧ mX11_years N a1 (nI n) (nI p) I1 = some (bb, I2) ∧ I2 310 0 = kL2 rv ∧ (∀ v, rv = .inl v → v = bb) ∧ Inv (c + 1) I2 := by
        intro r h1 h2
        refine ⟨.inl r, I20, newJ J n9, r, I16, ?_, (fun E h => by cases h), ?_, z16.trans rfl, (fun v h => by cases h; rfl), hInv'⟩
        · unfold mX10_years
          rw [if_neg hC1, if_pos hC2, if_neg (nI_pos (by omega)), if_pos (show nI n ≤ (60 : Int32) from nI_le (b := 60) hn60 (by omega)), e5, ob_some, ← hK, e10, ob_some, h1, ob_some, e20, ob_some]
        · rw [baseM I20 1 (eN _), m_right1 u2_at, ob_some]
          dsimp only
          rw [if_neg (show ¬ (1 : Int32) = 0 by decide), e11, ob_some, e16, ob_some, h2]
      have hp3 : p = 0 ∨ p = 1 ∨ p = 2 := by omega
      rcases hp3 with rfl | rfl | rfl
      · refine fin (nI (pcn (mk9 (snd9 σ') ν.tn))) ?_ ?_
        · rw [if_pos (show nI 0 = 0 from rfl), c_stands hn c10 cs10 hw' (by omega), ob_some, c_bits (mk9_512 hn _), ob_some]
        · rw [if_pos (show nI 0 = 0 from rfl), show mX11_standing N 82 I16 = _ from m_stands (b := 82) hn m16 s16 hw' (by omega) (by omega), ob_some, m_bits (by omega), ob_some]
      · refine fin d' ?_ ?_
        · rw [if_neg (show ¬ nI 1 = 0 by decide), if_neg (show ¬ nI 1 = 2 by decide), d10]
        · rw [if_neg (show ¬ nI 1 = 0 by decide), if_pos (show nI 1 = 1 from rfl), d16]
      · refine fin (zI (sm (fun l => (ν.L l 3 : Int) - pl ν σ' 99 l 7) ν.ln)) ?_ ?_
        · rw [if_neg (show ¬ nI 2 = 0 by decide), if_pos (show nI 2 = 2 from rfl), c_tall hn c10 cs10 hw' (by omega), ob_some]
        · rw [if_neg (show ¬ nI 2 = 0 by decide), if_neg (show ¬ nI 2 = 1 by decide), show mX11_takenAll N 82 I16 = _ from m_tall (b := 82) hn m16 s16 hw' (by omega) (by omega), ob_some]
    · refine ⟨.inr xnA, I, J, 0, upd2 (upd2 I 310 0 0) 310 0 2, ?_, (fun E h => by cases h; exact Or.inr rfl), ?_, u2_at.trans (by decide), (fun v h => by cases h), hInv.sm s0.u0⟩
      · unfold mX10_years
        rw [if_neg hC1, if_pos hC2]
        rcases i_nn a2 with h | ⟨n, h1, rfl⟩
        · rw [if_pos h]
        · by_cases h2 : n ≤ 60
          · exact absurd rfl (hno2 n (by omega) h2)
          · rw [if_neg (nI_pos (by omega)), if_neg (show ¬ nI n ≤ (60 : Int32) from nI_ge (a := 60) (by omega) (by omega))]
      · rw [baseM I 0 (eN _), m_right0 u2_at (by decide), ob_some]
        dsimp only
        rw [if_pos rfl]
  · refine ⟨.inr xnN, I, J, 0, upd2 (upd2 I 310 0 0) 310 0 1, ?_, (fun E h => by cases h; exact Or.inl rfl), ?_, u2_at.trans (by decide), (fun v h => by cases h), hInv.sm s0.u0⟩
    · unfold mX10_years
      rcases i_nn a3 with h | ⟨n, h1, rfl⟩
      · rw [if_pos h]
      · by_cases h2 : n ≤ 2
        · exact absurd rfl (hno n (by omega) h2)
        · rw [if_neg (nI_pos (by omega)), if_neg (show ¬ nI n ≤ (2 : Int32) from nI_ge (a := 2) (by omega) (by omega))]
    · unfold mX11_years mX11_isWhat
      rw [show mX11_within a3 0 2 (upd2 I 310 0 0) = some 0 from eW _, ob_some, m_right0 u2_at (by decide), ob_some]
      dsimp only
      rw [zo_0, ob_some]
      dsimp only
      rw [if_pos rfl]
end YearsS
