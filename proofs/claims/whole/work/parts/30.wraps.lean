theorem cas_xnA : Cond.castable xnA xnA ∈ NW := inNW (List.mem_of_getElem? (i := 573) (by decide +kernel)) (by decide +kernel)
theorem cas_xnN : Cond.castable xnN xnN ∈ NW := inNW (List.mem_of_getElem? (i := 844) (by decide +kernel)) (by decide +kernel)
theorem lwL_network : LkW yL_network cL_network 4 (some .int) [(0, 9, 12, 13)] 3 := ⟨inLW (List.mem_append_right _ (List.mem_append_right _ (List.mem_append_left _ (List.mem_of_getElem? (i := 85) rfl)))) (by decide +kernel), inLW (List.mem_of_getElem? (i := 0) (by decide +kernel)) (by decide +kernel), ⟨by decide, by decide, by decide +kernel⟩, by decide⟩
set_option maxHeartbeats 4000000 in
set_option maxRecDepth 100000 in
theorem ct_L_network (N : Nat) (d : Nat) (hd : 11 ≤ d) {S : gS} {J : gJ} (hS : Sh S) {a1 : Int32} {I : gI} {r : (Int32 ⊕ String) × gI} (h : mX10_network N a1 I = some r) (hE : ∀ E, r.1 = .inr E → E = xnA) : CtW yL_network cL_network 4 (some .int) [(0, 9, 12, 13)] d 1 6 [.ref 0, .int a1, .ref 337] S I J (qE (.inl (some (.int (kL1 r.1)))) (oS r.1 (updR S 28 0 (some 1)) S) r.2 (jL r.1 J)) := by
  obtain ⟨rv, rI⟩ := r
  refine CtW.of (by decide +kernel) (Nat.le_of_ble_eq_true rfl) ⟨Or.inl (sn0 hS), trivial, Or.inl (sn337 hS), trivial⟩ ?_
  show Wp RL cL_network 4 (some .int) (hhE [(0, 9, 12, 13)]) hN d 1 6 0 [(0, .ref 0), (1, .int a1), (2, .ref 337)] [] S I J _
  cases rv with
  | inl x =>
    refine wp_aload_n dL_network_0 rfl rfl ?_
    refine wp_iconst (v := 0) dL_network_1 (by decide) ?_
    refine wp_aload_n dL_network_2 rfl rfl ?_
    refine wp_iload_n dL_network_3 rfl rfl ?_
    refine wp_callVi (ci := 10) (As := [.int a1]) dL_network_4 lbX10_network mlL_7 imX10_network seX10_network vc10 (ct_X10_network N 10 (Nat.le_refl _) hS  h) rfl rfl (Nat.le_trans (by decide) hd) (sk0 hS) (sn0 hS) (Nat.le_of_ble_eq_true rfl) (fun _ => ?_)
    refine wp_i2l dL_network_7 ?_
    refine wp_last (n := 1) dL_network_8 (sk337 (Sh_bytes hS)) (sn337 (Sh_bytes hS)) (inb_in (by decide)) ?_
    refine wp_goto (tgt := 15) dL_network_9 (by decide) ?_
    refine wp_iconst (v := 0) dL_network_15 (by decide) ?_
    exact wp_iret dL_network_16 rfl ⟨rfl, rfl, rfl, rfl⟩
  | inr E =>
    obtain rfl := hE E rfl
    refine wp_aload_n dL_network_0 rfl rfl ?_
    refine wp_iconst (v := 0) dL_network_1 (by decide) ?_
    refine wp_aload_n dL_network_2 rfl rfl ?_
    refine wp_iload_n dL_network_3 rfl rfl ?_
    refine wp_tryVx (i := 3) (hp2 := 13) (ci := 10) (As := [.int a1]) dL_network_4 lbX10_network mlL_7 imX10_network seX10_network vc10 (ct_X10_network N 10 (Nat.le_refl _) hS  h) rfl rfl (Nat.le_trans (by decide) hd) (sk0 hS) (sn0 hS) (Nat.le_of_ble_eq_true rfl) [] ⟨0, 9, 12, 13⟩ [] rfl (fun z hz => nomatch hz) (by decide) (by decide) clL_13 cas_xnA (Or.inl ⟨3, dL_network_12, rfl, rfl⟩) (by decide) ?_
    refine wp_iconst (v := 1) dL_network_13 (by decide) ?_
    exact wp_iret dL_network_14 rfl ⟨rfl, rfl, rfl, rfl⟩
theorem lwL_count : LkW yL_count cL_count 4 (some .int) [(0, 9, 12, 18)] 3 := ⟨inLW (List.mem_append_right _ (List.mem_append_right _ (List.mem_append_right _ (List.mem_append_left _ (List.mem_of_getElem? (i := 40) rfl))))) (by decide +kernel), inLW (List.mem_of_getElem? (i := 0) (by decide +kernel)) (by decide +kernel), ⟨by decide, by decide, by decide +kernel⟩, by decide⟩
set_option maxHeartbeats 4000000 in
set_option maxRecDepth 100000 in
theorem ct_L_count (N : Nat) (d : Nat) (hd : 10 ≤ d) {S : gS} {J : gJ} (hS : Sh S) {a1 : Int32} {I : gI} {r : (Int32 ⊕ String) × gI} (h : mX10_count N a1 I = some r) (hE : ∀ E, r.1 = .inr E → E = xnN) : CtW yL_count cL_count 4 (some .int) [(0, 9, 12, 18)] d 1 6 [.ref 0, .int a1, .ref 337] S I J (qE (.inl (some (.int (kL1 r.1)))) S r.2 (jL r.1 J)) := by
  obtain ⟨rv, rI⟩ := r
  refine CtW.of (by decide +kernel) (Nat.le_of_ble_eq_true rfl) ⟨Or.inl (sn0 hS), trivial, Or.inl (sn337 hS), trivial⟩ ?_
  show Wp RL cL_count 4 (some .int) (hhE [(0, 9, 12, 18)]) hN d 1 6 0 [(0, .ref 0), (1, .int a1), (2, .ref 337)] [] S I J _
  cases rv with
  | inl x =>
    refine wp_aload_n dL_count_0 rfl rfl ?_
    refine wp_iconst (v := 0) dL_count_1 (by decide) ?_
    refine wp_aload_n dL_count_2 rfl rfl ?_
    refine wp_iload_n dL_count_3 rfl rfl ?_
    refine wp_callVi (ci := 10) (As := [.int a1]) dL_count_4 lbX10_count mlL_15 imX10_count seX10_count vc10 (ct_X10_count N 9 (Nat.le_refl _) hS  h) rfl rfl (Nat.le_trans (by decide) hd) (sk0 hS) (sn0 hS) (Nat.le_of_ble_eq_true rfl) (fun _ => ?_)
    refine wp_i2l dL_count_7 ?_
    refine wp_last (n := 1) dL_count_8 (sk337 hS) (sn337 hS) (inb_in (by decide)) ?_
    refine wp_goto (tgt := 15) dL_count_9 (by decide) ?_
    refine wp_iconst (v := 0) dL_count_15 (by decide) ?_
    exact wp_iret dL_count_16 rfl ⟨rfl, rfl, rfl, rfl⟩
  | inr E =>
    obtain rfl := hE E rfl
    refine wp_aload_n dL_count_0 rfl rfl ?_
    refine wp_iconst (v := 0) dL_count_1 (by decide) ?_
    refine wp_aload_n dL_count_2 rfl rfl ?_
    refine wp_iload_n dL_count_3 rfl rfl ?_
    refine wp_tryVx (i := 3) (hp2 := 13) (ci := 10) (As := [.int a1]) dL_count_4 lbX10_count mlL_15 imX10_count seX10_count vc10 (ct_X10_count N 9 (Nat.le_refl _) hS  h) rfl rfl (Nat.le_trans (by decide) hd) (sk0 hS) (sn0 hS) (Nat.le_of_ble_eq_true rfl) [] ⟨0, 9, 12, 18⟩ [] rfl (fun z hz => nomatch hz) (by decide) (by decide) clL_18 cas_xnN (Or.inl ⟨3, dL_count_12, rfl, rfl⟩) (by decide) ?_
    refine wp_iconst (v := 1) dL_count_13 (by decide) ?_
    exact wp_iret dL_count_14 rfl ⟨rfl, rfl, rfl, rfl⟩
theorem lwL_link : LkW yL_link cL_link 5 (some .int) [(0, 10, 13, 18)] 4 := ⟨inLW (List.mem_append_right _ (List.mem_append_right _ (List.mem_append_right _ (List.mem_append_left _ (List.mem_of_getElem? (i := 140) rfl))))) (by decide +kernel), inLW (List.mem_of_getElem? (i := 0) (by decide +kernel)) (by decide +kernel), ⟨by decide, by decide, by decide +kernel⟩, by decide⟩
set_option maxHeartbeats 4000000 in
set_option maxRecDepth 100000 in
theorem ct_L_link (N : Nat) (d : Nat) (hd : 11 ≤ d) {S : gS} {J : gJ} (hS : Sh S) {a1 : Int32} {a2 : Int32} {I : gI} {r : (Int32 ⊕ String)} (h : mX10_link N a1 a2 I = some r) (hE : ∀ E, r = .inr E → E = xnN) : CtW yL_link cL_link 5 (some .int) [(0, 10, 13, 18)] d 2 12 [.ref 0, .int a1, .int a2, .ref 337] S I J (qE (.inl (some (.int (kL1 r)))) S I (jL r J)) := by
  refine CtW.of (by decide +kernel) (Nat.le_of_ble_eq_true rfl) ⟨Or.inl (sn0 hS), trivial, trivial, Or.inl (sn337 hS), trivial⟩ ?_
  show Wp RL cL_link 5 (some .int) (hhE [(0, 10, 13, 18)]) hN d 2 12 0 [(0, .ref 0), (1, .int a1), (2, .int a2), (3, .ref 337)] [] S I J _
  cases r with
  | inl x =>
    refine wp_aload_n dL_link_0 rfl rfl ?_
    refine wp_iconst (v := 0) dL_link_1 (by decide) ?_
    refine wp_aload_n dL_link_2 rfl rfl ?_
    refine wp_iload_n dL_link_3 rfl rfl ?_
    refine wp_iload_n dL_link_4 rfl rfl ?_
    refine wp_callVi (ci := 10) (As := [.int a1, .int a2]) dL_link_5 lbX10_link mlL_20 imX10_link seX10_link vc10 (ct_X10_link N 10 (Nat.le_refl _) hS  h) rfl rfl (Nat.le_trans (by decide) hd) (sk0 hS) (sn0 hS) (Nat.le_of_ble_eq_true rfl) (fun _ => ?_)
    refine wp_i2l dL_link_8 ?_
    refine wp_last (n := 1) dL_link_9 (sk337 hS) (sn337 hS) (inb_in (by decide)) ?_
    refine wp_goto (tgt := 17) dL_link_10 (by decide) ?_
    refine wp_iconst (v := 0) dL_link_17 (by decide) ?_
    exact wp_iret dL_link_18 rfl ⟨rfl, rfl, rfl, rfl⟩
  | inr E =>
    obtain rfl := hE E rfl
    refine wp_aload_n dL_link_0 rfl rfl ?_
    refine wp_iconst (v := 0) dL_link_1 (by decide) ?_
    refine wp_aload_n dL_link_2 rfl rfl ?_
    refine wp_iload_n dL_link_3 rfl rfl ?_
    refine wp_iload_n dL_link_4 rfl rfl ?_
    refine wp_tryVx (i := 4) (hp2 := 15) (ci := 10) (As := [.int a1, .int a2]) dL_link_5 lbX10_link mlL_20 imX10_link seX10_link vc10 (ct_X10_link N 10 (Nat.le_refl _) hS  h) rfl rfl (Nat.le_trans (by decide) hd) (sk0 hS) (sn0 hS) (Nat.le_of_ble_eq_true rfl) [] ⟨0, 10, 13, 18⟩ [] rfl (fun z hz => nomatch hz) (by decide) (by decide) clL_18 cas_xnN (Or.inr ⟨dL_link_13, rfl⟩) (by decide) ?_
    refine wp_iconst (v := 1) dL_link_15 (by decide) ?_
    exact wp_iret dL_link_16 rfl ⟨rfl, rfl, rfl, rfl⟩
theorem lwL_pool : LkW yL_pool cL_pool 5 (some .int) [(0, 10, 13, 18), (0, 10, 17, 13)] 4 := ⟨inLW (List.mem_append_right _ (List.mem_append_right _ (List.mem_append_right _ (List.mem_append_left _ (List.mem_of_getElem? (i := 154) rfl))))) (by decide +kernel), inLW (List.mem_of_getElem? (i := 0) (by decide +kernel)) (by decide +kernel), ⟨by decide, by decide, by decide +kernel⟩, by decide⟩
set_option maxHeartbeats 4000000 in
set_option maxRecDepth 100000 in
theorem ct_L_pool (N : Nat) (d : Nat) (hd : 11 ≤ d) {S : gS} {J : gJ} (hS : Sh S) {a1 : Int32} {a2 : Int32} {I : gI} {r : (Int32 ⊕ String)} (h : mX10_pool N a1 a2 I = some r) (hE : ∀ E, r = .inr E → E = xnN ∨ E = xnA) : CtW yL_pool cL_pool 5 (some .int) [(0, 10, 13, 18), (0, 10, 17, 13)] d 2 12 [.ref 0, .int a1, .int a2, .ref 337] S I J (qE (.inl (some (.int (kL2 r)))) S I (jL r J)) := by
  refine CtW.of (by decide +kernel) (Nat.le_of_ble_eq_true rfl) ⟨Or.inl (sn0 hS), trivial, trivial, Or.inl (sn337 hS), trivial⟩ ?_
  show Wp RL cL_pool 5 (some .int) (hhE [(0, 10, 13, 18), (0, 10, 17, 13)]) hN d 2 12 0 [(0, .ref 0), (1, .int a1), (2, .int a2), (3, .ref 337)] [] S I J _
  cases r with
  | inl x =>
    refine wp_aload_n dL_pool_0 rfl rfl ?_
    refine wp_iconst (v := 0) dL_pool_1 (by decide) ?_
    refine wp_aload_n dL_pool_2 rfl rfl ?_
    refine wp_iload_n dL_pool_3 rfl rfl ?_
    refine wp_iload_n dL_pool_4 rfl rfl ?_
    refine wp_callVi (ci := 10) (As := [.int a1, .int a2]) dL_pool_5 lbX10_pool mlL_24 imX10_pool seX10_pool vc10 (ct_X10_pool N 10 (Nat.le_refl _) hS  h) rfl rfl (Nat.le_trans (by decide) hd) (sk0 hS) (sn0 hS) (Nat.le_of_ble_eq_true rfl) (fun _ => ?_)
    refine wp_i2l dL_pool_8 ?_
    refine wp_last (n := 1) dL_pool_9 (sk337 hS) (sn337 hS) (inb_in (by decide)) ?_
    refine wp_goto (tgt := 21) dL_pool_10 (by decide) ?_
    refine wp_iconst (v := 0) dL_pool_21 (by decide) ?_
    exact wp_iret dL_pool_22 rfl ⟨rfl, rfl, rfl, rfl⟩
  | inr E =>
    rcases hE E rfl with rfl | rfl
    · refine wp_aload_n dL_pool_0 rfl rfl ?_
      refine wp_iconst (v := 0) dL_pool_1 (by decide) ?_
      refine wp_aload_n dL_pool_2 rfl rfl ?_
      refine wp_iload_n dL_pool_3 rfl rfl ?_
      refine wp_iload_n dL_pool_4 rfl rfl ?_
      refine wp_tryVx (i := 4) (hp2 := 15) (ci := 10) (As := [.int a1, .int a2]) dL_pool_5 lbX10_pool mlL_24 imX10_pool seX10_pool vc10 (ct_X10_pool N 10 (Nat.le_refl _) hS  h) rfl rfl (Nat.le_trans (by decide) hd) (sk0 hS) (sn0 hS) (Nat.le_of_ble_eq_true rfl) [] ⟨0, 10, 13, 18⟩ [⟨0, 10, 17, 13⟩] rfl (fun z hz => nomatch hz) (by decide) (by decide) clL_18 cas_xnN (Or.inr ⟨dL_pool_13, rfl⟩) (by decide) ?_
      refine wp_iconst (v := 1) dL_pool_15 (by decide) ?_
      exact wp_iret dL_pool_16 rfl ⟨rfl, rfl, rfl, rfl⟩
    · refine wp_aload_n dL_pool_0 rfl rfl ?_
      refine wp_iconst (v := 0) dL_pool_1 (by decide) ?_
      refine wp_aload_n dL_pool_2 rfl rfl ?_
      refine wp_iload_n dL_pool_3 rfl rfl ?_
      refine wp_iload_n dL_pool_4 rfl rfl ?_
      refine wp_tryVx (i := 4) (hp2 := 19) (ci := 10) (As := [.int a1, .int a2]) dL_pool_5 lbX10_pool mlL_24 imX10_pool seX10_pool vc10 (ct_X10_pool N 10 (Nat.le_refl _) hS  h) rfl rfl (Nat.le_trans (by decide) hd) (sk0 hS) (sn0 hS) (Nat.le_of_ble_eq_true rfl) [⟨0, 10, 13, 18⟩] ⟨0, 10, 17, 13⟩ [] rfl (fun z hz => by rw [List.mem_singleton.mp hz]; exact ⟨(by decide), clL_18, rfl⟩) (by decide) (by decide) clL_13 cas_xnA (Or.inr ⟨dL_pool_17, rfl⟩) (by decide) ?_
      refine wp_iconst (v := 2) dL_pool_19 (by decide) ?_
      exact wp_iret dL_pool_20 rfl ⟨rfl, rfl, rfl, rfl⟩
theorem lwL_tunnel : LkW yL_tunnel cL_tunnel 5 (some .int) [(0, 10, 13, 18)] 4 := ⟨inLW (List.mem_append_right _ (List.mem_append_right _ (List.mem_append_right _ (List.mem_append_left _ (List.mem_of_getElem? (i := 169) rfl))))) (by decide +kernel), inLW (List.mem_of_getElem? (i := 0) (by decide +kernel)) (by decide +kernel), ⟨by decide, by decide, by decide +kernel⟩, by decide⟩
set_option maxHeartbeats 4000000 in
set_option maxRecDepth 100000 in
theorem ct_L_tunnel (N : Nat) (d : Nat) (hd : 11 ≤ d) {S : gS} {J : gJ} (hS : Sh S) {a1 : Int32} {a2 : Int32} {I : gI} {r : (Int32 ⊕ String) × gI} (h : mX10_tunnel N a1 a2 I = some r) (hE : ∀ E, r.1 = .inr E → E = xnN) : CtW yL_tunnel cL_tunnel 5 (some .int) [(0, 10, 13, 18)] d 2 12 [.ref 0, .int a1, .int a2, .ref 337] S I J (qE (.inl (some (.int (kL1 r.1)))) S r.2 (jL r.1 J)) := by
  obtain ⟨rv, rI⟩ := r
  refine CtW.of (by decide +kernel) (Nat.le_of_ble_eq_true rfl) ⟨Or.inl (sn0 hS), trivial, trivial, Or.inl (sn337 hS), trivial⟩ ?_
  show Wp RL cL_tunnel 5 (some .int) (hhE [(0, 10, 13, 18)]) hN d 2 12 0 [(0, .ref 0), (1, .int a1), (2, .int a2), (3, .ref 337)] [] S I J _
  cases rv with
  | inl x =>
    refine wp_aload_n dL_tunnel_0 rfl rfl ?_
    refine wp_iconst (v := 0) dL_tunnel_1 (by decide) ?_
    refine wp_aload_n dL_tunnel_2 rfl rfl ?_
    refine wp_iload_n dL_tunnel_3 rfl rfl ?_
    refine wp_iload_n dL_tunnel_4 rfl rfl ?_
    refine wp_callVi (ci := 10) (As := [.int a1, .int a2]) dL_tunnel_5 lbX10_tunnel mlL_27 imX10_tunnel seX10_tunnel vc10 (ct_X10_tunnel N 10 (Nat.le_refl _) hS  h) rfl rfl (Nat.le_trans (by decide) hd) (sk0 hS) (sn0 hS) (Nat.le_of_ble_eq_true rfl) (fun _ => ?_)
    refine wp_i2l dL_tunnel_8 ?_
    refine wp_last (n := 1) dL_tunnel_9 (sk337 hS) (sn337 hS) (inb_in (by decide)) ?_
    refine wp_goto (tgt := 17) dL_tunnel_10 (by decide) ?_
    refine wp_iconst (v := 0) dL_tunnel_17 (by decide) ?_
    exact wp_iret dL_tunnel_18 rfl ⟨rfl, rfl, rfl, rfl⟩
  | inr E =>
    obtain rfl := hE E rfl
    refine wp_aload_n dL_tunnel_0 rfl rfl ?_
    refine wp_iconst (v := 0) dL_tunnel_1 (by decide) ?_
    refine wp_aload_n dL_tunnel_2 rfl rfl ?_
    refine wp_iload_n dL_tunnel_3 rfl rfl ?_
    refine wp_iload_n dL_tunnel_4 rfl rfl ?_
    refine wp_tryVx (i := 4) (hp2 := 15) (ci := 10) (As := [.int a1, .int a2]) dL_tunnel_5 lbX10_tunnel mlL_27 imX10_tunnel seX10_tunnel vc10 (ct_X10_tunnel N 10 (Nat.le_refl _) hS  h) rfl rfl (Nat.le_trans (by decide) hd) (sk0 hS) (sn0 hS) (Nat.le_of_ble_eq_true rfl) [] ⟨0, 10, 13, 18⟩ [] rfl (fun z hz => nomatch hz) (by decide) (by decide) clL_18 cas_xnN (Or.inr ⟨dL_tunnel_13, rfl⟩) (by decide) ?_
    refine wp_iconst (v := 1) dL_tunnel_15 (by decide) ?_
    exact wp_iret dL_tunnel_16 rfl ⟨rfl, rfl, rfl, rfl⟩
theorem lwL_way : LkW yL_way cL_way 5 (some .int) [(0, 10, 13, 18)] 4 := ⟨inLW (List.mem_append_right _ (List.mem_append_right _ (List.mem_append_right _ (List.mem_append_left _ (List.mem_of_getElem? (i := 188) rfl))))) (by decide +kernel), inLW (List.mem_of_getElem? (i := 0) (by decide +kernel)) (by decide +kernel), ⟨by decide, by decide, by decide +kernel⟩, by decide⟩
set_option maxHeartbeats 4000000 in
set_option maxRecDepth 100000 in
theorem ct_L_way (N : Nat) (d : Nat) (hd : 11 ≤ d) {S : gS} {J : gJ} (hS : Sh S) {a1 : Int32} {a2 : Int32} {I : gI} {r : (Int32 ⊕ String)} (h : mX10_way N a1 a2 I = some r) (hE : ∀ E, r = .inr E → E = xnN) : CtW yL_way cL_way 5 (some .int) [(0, 10, 13, 18)] d 3 18 [.ref 0, .int a1, .int a2, .ref 337] S I J (qE (.inl (some (.int (kL1 r)))) S I (jL r J)) := by
  refine CtW.of (by decide +kernel) (Nat.le_of_ble_eq_true rfl) ⟨Or.inl (sn0 hS), trivial, trivial, Or.inl (sn337 hS), trivial⟩ ?_
  show Wp RL cL_way 5 (some .int) (hhE [(0, 10, 13, 18)]) hN d 3 18 0 [(0, .ref 0), (1, .int a1), (2, .int a2), (3, .ref 337)] [] S I J _
  cases r with
  | inl x =>
    refine wp_aload_n dL_way_0 rfl rfl ?_
    refine wp_iconst (v := 0) dL_way_1 (by decide) ?_
    refine wp_aload_n dL_way_2 rfl rfl ?_
    refine wp_iload_n dL_way_3 rfl rfl ?_
    refine wp_iload_n dL_way_4 rfl rfl ?_
    refine wp_callVi (ci := 10) (As := [.int a1, .int a2]) dL_way_5 lbX10_way mlL_30 imX10_way seX10_way vc10 (ct_X10_way N 10 (Nat.le_refl _) hS  h) rfl rfl (Nat.le_trans (by decide) hd) (sk0 hS) (sn0 hS) (Nat.le_of_ble_eq_true rfl) (fun _ => ?_)
    refine wp_i2l dL_way_8 ?_
    refine wp_last (n := 1) dL_way_9 (sk337 hS) (sn337 hS) (inb_in (by decide)) ?_
    refine wp_goto (tgt := 17) dL_way_10 (by decide) ?_
    refine wp_iconst (v := 0) dL_way_17 (by decide) ?_
    exact wp_iret dL_way_18 rfl ⟨rfl, rfl, rfl, rfl⟩
  | inr E =>
    obtain rfl := hE E rfl
    refine wp_aload_n dL_way_0 rfl rfl ?_
    refine wp_iconst (v := 0) dL_way_1 (by decide) ?_
    refine wp_aload_n dL_way_2 rfl rfl ?_
    refine wp_iload_n dL_way_3 rfl rfl ?_
    refine wp_iload_n dL_way_4 rfl rfl ?_
    refine wp_tryVx (i := 4) (hp2 := 15) (ci := 10) (As := [.int a1, .int a2]) dL_way_5 lbX10_way mlL_30 imX10_way seX10_way vc10 (ct_X10_way N 10 (Nat.le_refl _) hS  h) rfl rfl (Nat.le_trans (by decide) hd) (sk0 hS) (sn0 hS) (Nat.le_of_ble_eq_true rfl) [] ⟨0, 10, 13, 18⟩ [] rfl (fun z hz => nomatch hz) (by decide) (by decide) clL_18 cas_xnN (Or.inr ⟨dL_way_13, rfl⟩) (by decide) ?_
    refine wp_iconst (v := 1) dL_way_15 (by decide) ?_
    exact wp_iret dL_way_16 rfl ⟨rfl, rfl, rfl, rfl⟩
theorem lwL_best : LkW yL_best cL_best 5 (some .int) [(0, 10, 13, 18)] 4 := ⟨inLW (List.mem_append_right _ (List.mem_append_right _ (List.mem_append_right _ (List.mem_append_left _ (List.mem_of_getElem? (i := 208) rfl))))) (by decide +kernel), inLW (List.mem_of_getElem? (i := 0) (by decide +kernel)) (by decide +kernel), ⟨by decide, by decide, by decide +kernel⟩, by decide⟩
set_option maxHeartbeats 4000000 in
set_option maxRecDepth 100000 in
theorem ct_L_best (N : Nat) (d : Nat) (hd : 11 ≤ d) {S : gS} {J : gJ} (hS : Sh S) {a1 : Int32} {a2 : Int32} {I : gI} {r : (Int32 ⊕ String) × gI} (h : mX10_best N a1 a2 I = some r) (hE : ∀ E, r.1 = .inr E → E = xnN) : CtW yL_best cL_best 5 (some .int) [(0, 10, 13, 18)] d 2 12 [.ref 0, .int a1, .int a2, .ref 337] S I J (qE (.inl (some (.int (kL1 r.1)))) S r.2 (jL r.1 J)) := by
  obtain ⟨rv, rI⟩ := r
  refine CtW.of (by decide +kernel) (Nat.le_of_ble_eq_true rfl) ⟨Or.inl (sn0 hS), trivial, trivial, Or.inl (sn337 hS), trivial⟩ ?_
  show Wp RL cL_best 5 (some .int) (hhE [(0, 10, 13, 18)]) hN d 2 12 0 [(0, .ref 0), (1, .int a1), (2, .int a2), (3, .ref 337)] [] S I J _
  cases rv with
  | inl x =>
    refine wp_aload_n dL_best_0 rfl rfl ?_
    refine wp_iconst (v := 0) dL_best_1 (by decide) ?_
    refine wp_aload_n dL_best_2 rfl rfl ?_
    refine wp_iload_n dL_best_3 rfl rfl ?_
    refine wp_iload_n dL_best_4 rfl rfl ?_
    refine wp_callVi (ci := 10) (As := [.int a1, .int a2]) dL_best_5 lbX10_best mlL_33 imX10_best seX10_best vc10 (ct_X10_best N 10 (Nat.le_refl _) hS  h) rfl rfl (Nat.le_trans (by decide) hd) (sk0 hS) (sn0 hS) (Nat.le_of_ble_eq_true rfl) (fun _ => ?_)
    refine wp_i2l dL_best_8 ?_
    refine wp_last (n := 1) dL_best_9 (sk337 hS) (sn337 hS) (inb_in (by decide)) ?_
    refine wp_goto (tgt := 17) dL_best_10 (by decide) ?_
    refine wp_iconst (v := 0) dL_best_17 (by decide) ?_
    exact wp_iret dL_best_18 rfl ⟨rfl, rfl, rfl, rfl⟩
  | inr E =>
    obtain rfl := hE E rfl
    refine wp_aload_n dL_best_0 rfl rfl ?_
    refine wp_iconst (v := 0) dL_best_1 (by decide) ?_
    refine wp_aload_n dL_best_2 rfl rfl ?_
    refine wp_iload_n dL_best_3 rfl rfl ?_
    refine wp_iload_n dL_best_4 rfl rfl ?_
    refine wp_tryVx (i := 4) (hp2 := 15) (ci := 10) (As := [.int a1, .int a2]) dL_best_5 lbX10_best mlL_33 imX10_best seX10_best vc10 (ct_X10_best N 10 (Nat.le_refl _) hS  h) rfl rfl (Nat.le_trans (by decide) hd) (sk0 hS) (sn0 hS) (Nat.le_of_ble_eq_true rfl) [] ⟨0, 10, 13, 18⟩ [] rfl (fun z hz => nomatch hz) (by decide) (by decide) clL_18 cas_xnN (Or.inr ⟨dL_best_13, rfl⟩) (by decide) ?_
    refine wp_iconst (v := 1) dL_best_15 (by decide) ?_
    exact wp_iret dL_best_16 rfl ⟨rfl, rfl, rfl, rfl⟩
theorem lwL_pushes : LkW yL_pushes cL_pushes 5 (some .int) [(0, 10, 13, 18)] 4 := ⟨inLW (List.mem_append_right _ (List.mem_append_right _ (List.mem_append_right _ (List.mem_append_left _ (List.mem_of_getElem? (i := 219) rfl))))) (by decide +kernel), inLW (List.mem_of_getElem? (i := 0) (by decide +kernel)) (by decide +kernel), ⟨by decide, by decide, by decide +kernel⟩, by decide⟩
set_option maxHeartbeats 4000000 in
set_option maxRecDepth 100000 in
theorem ct_L_pushes (N : Nat) (d : Nat) (hd : 11 ≤ d) {S : gS} {J : gJ} (hS : Sh S) {a1 : Int32} {a2 : Int32} {I : gI} {r : (Int32 ⊕ String) × gI} (h : mX10_pushes N a1 a2 I = some r) (hE : ∀ E, r.1 = .inr E → E = xnN) : CtW yL_pushes cL_pushes 5 (some .int) [(0, 10, 13, 18)] d 2 12 [.ref 0, .int a1, .int a2, .ref 337] S I J (qE (.inl (some (.int (kL1 r.1)))) S r.2 (jL r.1 J)) := by
  obtain ⟨rv, rI⟩ := r
  refine CtW.of (by decide +kernel) (Nat.le_of_ble_eq_true rfl) ⟨Or.inl (sn0 hS), trivial, trivial, Or.inl (sn337 hS), trivial⟩ ?_
  show Wp RL cL_pushes 5 (some .int) (hhE [(0, 10, 13, 18)]) hN d 2 12 0 [(0, .ref 0), (1, .int a1), (2, .int a2), (3, .ref 337)] [] S I J _
  cases rv with
  | inl x =>
    refine wp_aload_n dL_pushes_0 rfl rfl ?_
    refine wp_iconst (v := 0) dL_pushes_1 (by decide) ?_
    refine wp_aload_n dL_pushes_2 rfl rfl ?_
    refine wp_iload_n dL_pushes_3 rfl rfl ?_
    refine wp_iload_n dL_pushes_4 rfl rfl ?_
    refine wp_callVi (ci := 10) (As := [.int a1, .int a2]) dL_pushes_5 lbX10_pushes mlL_36 imX10_pushes seX10_pushes vc10 (ct_X10_pushes N 10 (Nat.le_refl _) hS  h) rfl rfl (Nat.le_trans (by decide) hd) (sk0 hS) (sn0 hS) (Nat.le_of_ble_eq_true rfl) (fun _ => ?_)
    refine wp_i2l dL_pushes_8 ?_
    refine wp_last (n := 1) dL_pushes_9 (sk337 hS) (sn337 hS) (inb_in (by decide)) ?_
    refine wp_goto (tgt := 17) dL_pushes_10 (by decide) ?_
    refine wp_iconst (v := 0) dL_pushes_17 (by decide) ?_
    exact wp_iret dL_pushes_18 rfl ⟨rfl, rfl, rfl, rfl⟩
  | inr E =>
    obtain rfl := hE E rfl
    refine wp_aload_n dL_pushes_0 rfl rfl ?_
    refine wp_iconst (v := 0) dL_pushes_1 (by decide) ?_
    refine wp_aload_n dL_pushes_2 rfl rfl ?_
    refine wp_iload_n dL_pushes_3 rfl rfl ?_
    refine wp_iload_n dL_pushes_4 rfl rfl ?_
    refine wp_tryVx (i := 4) (hp2 := 15) (ci := 10) (As := [.int a1, .int a2]) dL_pushes_5 lbX10_pushes mlL_36 imX10_pushes seX10_pushes vc10 (ct_X10_pushes N 10 (Nat.le_refl _) hS  h) rfl rfl (Nat.le_trans (by decide) hd) (sk0 hS) (sn0 hS) (Nat.le_of_ble_eq_true rfl) [] ⟨0, 10, 13, 18⟩ [] rfl (fun z hz => nomatch hz) (by decide) (by decide) clL_18 cas_xnN (Or.inr ⟨dL_pushes_13, rfl⟩) (by decide) ?_
    refine wp_iconst (v := 1) dL_pushes_15 (by decide) ?_
    exact wp_iret dL_pushes_16 rfl ⟨rfl, rfl, rfl, rfl⟩
theorem lwL_setUp : LkW yL_setUp cL_setUp 4 (some .int) [(0, 9, 12, 18)] 3 := ⟨inLW (List.mem_append_right _ (List.mem_append_right _ (List.mem_append_right _ (List.mem_append_left _ (List.mem_of_getElem? (i := 229) rfl))))) (by decide +kernel), inLW (List.mem_of_getElem? (i := 0) (by decide +kernel)) (by decide +kernel), ⟨by decide, by decide, by decide +kernel⟩, by decide⟩
set_option maxHeartbeats 4000000 in
set_option maxRecDepth 100000 in
theorem ct_L_setUp (N : Nat) (d : Nat) (hd : 11 ≤ d) {S : gS} {J : gJ} (hS : Sh S) {a1 : Int32} {I : gI} {r : (Int32 ⊕ String) × gI} (h : mX10_setUp N a1 I = some r) (hE : ∀ E, r.1 = .inr E → E = xnN) : CtW yL_setUp cL_setUp 4 (some .int) [(0, 9, 12, 18)] d 1 6 [.ref 0, .int a1, .ref 337] S I J (qE (.inl (some (.int (kL1 r.1)))) S r.2 (jL r.1 J)) := by
  obtain ⟨rv, rI⟩ := r
  refine CtW.of (by decide +kernel) (Nat.le_of_ble_eq_true rfl) ⟨Or.inl (sn0 hS), trivial, Or.inl (sn337 hS), trivial⟩ ?_
  show Wp RL cL_setUp 4 (some .int) (hhE [(0, 9, 12, 18)]) hN d 1 6 0 [(0, .ref 0), (1, .int a1), (2, .ref 337)] [] S I J _
  cases rv with
  | inl x =>
    refine wp_aload_n dL_setUp_0 rfl rfl ?_
    refine wp_iconst (v := 0) dL_setUp_1 (by decide) ?_
    refine wp_aload_n dL_setUp_2 rfl rfl ?_
    refine wp_iload_n dL_setUp_3 rfl rfl ?_
    refine wp_callVi (ci := 10) (As := [.int a1]) dL_setUp_4 lbX10_setUp mlL_39 imX10_setUp seX10_setUp vc10 (ct_X10_setUp N 10 (Nat.le_refl _) hS  h) rfl rfl (Nat.le_trans (by decide) hd) (sk0 hS) (sn0 hS) (Nat.le_of_ble_eq_true rfl) (fun _ => ?_)
    refine wp_i2l dL_setUp_7 ?_
    refine wp_last (n := 1) dL_setUp_8 (sk337 hS) (sn337 hS) (inb_in (by decide)) ?_
    refine wp_goto (tgt := 15) dL_setUp_9 (by decide) ?_
    refine wp_iconst (v := 0) dL_setUp_15 (by decide) ?_
    exact wp_iret dL_setUp_16 rfl ⟨rfl, rfl, rfl, rfl⟩
  | inr E =>
    obtain rfl := hE E rfl
    refine wp_aload_n dL_setUp_0 rfl rfl ?_
    refine wp_iconst (v := 0) dL_setUp_1 (by decide) ?_
    refine wp_aload_n dL_setUp_2 rfl rfl ?_
    refine wp_iload_n dL_setUp_3 rfl rfl ?_
    refine wp_tryVx (i := 3) (hp2 := 13) (ci := 10) (As := [.int a1]) dL_setUp_4 lbX10_setUp mlL_39 imX10_setUp seX10_setUp vc10 (ct_X10_setUp N 10 (Nat.le_refl _) hS  h) rfl rfl (Nat.le_trans (by decide) hd) (sk0 hS) (sn0 hS) (Nat.le_of_ble_eq_true rfl) [] ⟨0, 9, 12, 18⟩ [] rfl (fun z hz => nomatch hz) (by decide) (by decide) clL_18 cas_xnN (Or.inl ⟨3, dL_setUp_12, rfl, rfl⟩) (by decide) ?_
    refine wp_iconst (v := 1) dL_setUp_13 (by decide) ?_
    exact wp_iret dL_setUp_14 rfl ⟨rfl, rfl, rfl, rfl⟩
theorem lwL_tearDown : LkW yL_tearDown cL_tearDown 4 (some .int) [(0, 16, 19, 18)] 3 := ⟨inLW (List.mem_append_right _ (List.mem_append_right _ (List.mem_append_right _ (List.mem_append_right _ (List.mem_append_left _ (List.mem_of_getElem? (i := 4) rfl)))))) (by decide +kernel), inLW (List.mem_of_getElem? (i := 0) (by decide +kernel)) (by decide +kernel), ⟨by decide, by decide, by decide +kernel⟩, by decide⟩
set_option maxHeartbeats 4000000 in
set_option maxRecDepth 100000 in
theorem ct_L_tearDown (N : Nat) (d : Nat) (hd : 11 ≤ d) {S : gS} {J : gJ} (hS : Sh S) {a1 : Int32} {I : gI} {r : (Int32 ⊕ String) × gI} (h : mX10_tearDown N a1 I = some r) (hE : ∀ E, r.1 = .inr E → E = xnN) : CtW yL_tearDown cL_tearDown 4 (some .int) [(0, 16, 19, 18)] d 1 6 [.ref 0, .int a1, .ref 337] S I J (qE (.inl (some (.int (kL1 r.1)))) S r.2 (jB r.1 J)) := by
  obtain ⟨rv, rI⟩ := r
  refine CtW.of (by decide +kernel) (Nat.le_of_ble_eq_true rfl) ⟨Or.inl (sn0 hS), trivial, Or.inl (sn337 hS), trivial⟩ ?_
  show Wp RL cL_tearDown 4 (some .int) (hhE [(0, 16, 19, 18)]) hN d 1 6 0 [(0, .ref 0), (1, .int a1), (2, .ref 337)] [] S I J _
  cases rv with
  | inl x =>
    refine wp_aload_n dL_tearDown_0 rfl rfl ?_
    refine wp_iconst (v := 0) dL_tearDown_1 (by decide) ?_
    refine wp_aload_n dL_tearDown_2 rfl rfl ?_
    refine wp_iload_n dL_tearDown_3 rfl rfl ?_
    refine wp_callVi (ci := 10) (As := [.int a1]) dL_tearDown_4 lbX10_tearDown mlL_42 imX10_tearDown seX10_tearDown vc10 (ct_X10_tearDown N 10 (Nat.le_refl _) hS  h) rfl rfl (Nat.le_trans (by decide) hd) (sk0 hS) (sn0 hS) (Nat.le_of_ble_eq_true rfl) (fun _ => ?_)
    refine wp_if_eq (tgt := 14) dL_tearDown_7 (by decide) (fun hc => ?_) (fun hc => ?_)
    · refine wp_lconst (v := 0) dL_tearDown_14 (by decide) ?_
      refine wp_last (n := 1) dL_tearDown_15 (sk337 hS) (sn337 hS) (inb_in (by decide)) ?_
      refine wp_goto (tgt := 22) dL_tearDown_16 (by decide) ?_
      refine wp_iconst (v := 0) dL_tearDown_22 (by decide) ?_
      exact wp_iret dL_tearDown_23 rfl ⟨rfl, rfl, rfl, by show _ = updJ _ 337 0 _; rw [if_pos hc]; rfl⟩
    · refine wp_lconst (v := 1) dL_tearDown_10 (by decide) ?_
      refine wp_goto (tgt := 15) dL_tearDown_11 (by decide) ?_
      refine wp_last (n := 1) dL_tearDown_15 (sk337 hS) (sn337 hS) (inb_in (by decide)) ?_
      refine wp_goto (tgt := 22) dL_tearDown_16 (by decide) ?_
      refine wp_iconst (v := 0) dL_tearDown_22 (by decide) ?_
      exact wp_iret dL_tearDown_23 rfl ⟨rfl, rfl, rfl, by show _ = updJ _ 337 0 _; rw [if_neg hc]; rfl⟩
  | inr E =>
    obtain rfl := hE E rfl
    refine wp_aload_n dL_tearDown_0 rfl rfl ?_
    refine wp_iconst (v := 0) dL_tearDown_1 (by decide) ?_
    refine wp_aload_n dL_tearDown_2 rfl rfl ?_
    refine wp_iload_n dL_tearDown_3 rfl rfl ?_
    refine wp_tryVx (i := 3) (hp2 := 20) (ci := 10) (As := [.int a1]) dL_tearDown_4 lbX10_tearDown mlL_42 imX10_tearDown seX10_tearDown vc10 (ct_X10_tearDown N 10 (Nat.le_refl _) hS  h) rfl rfl (Nat.le_trans (by decide) hd) (sk0 hS) (sn0 hS) (Nat.le_of_ble_eq_true rfl) [] ⟨0, 16, 19, 18⟩ [] rfl (fun z hz => nomatch hz) (by decide) (by decide) clL_18 cas_xnN (Or.inl ⟨3, dL_tearDown_19, rfl, rfl⟩) (by decide) ?_
    refine wp_iconst (v := 1) dL_tearDown_20 (by decide) ?_
    exact wp_iret dL_tearDown_21 rfl ⟨rfl, rfl, rfl, rfl⟩
theorem lwL_move : LkW yL_move cL_move 4 (some .int) [(0, 9, 12, 18)] 3 := ⟨inLW (List.mem_append_right _ (List.mem_append_right _ (List.mem_append_right _ (List.mem_append_right _ (List.mem_append_left _ (List.mem_of_getElem? (i := 11) rfl)))))) (by decide +kernel), inLW (List.mem_of_getElem? (i := 0) (by decide +kernel)) (by decide +kernel), ⟨by decide, by decide, by decide +kernel⟩, by decide⟩
set_option maxHeartbeats 4000000 in
set_option maxRecDepth 100000 in
theorem ct_L_move (N : Nat) (d : Nat) (hd : 11 ≤ d) {S : gS} {J : gJ} (hS : Sh S) {a1 : Int32} {I : gI} {r : (Int32 ⊕ String) × gI} (h : mX10_move N a1 I = some r) (hE : ∀ E, r.1 = .inr E → E = xnN) : CtW yL_move cL_move 4 (some .int) [(0, 9, 12, 18)] d 1 6 [.ref 0, .int a1, .ref 337] S I J (qE (.inl (some (.int (kL1 r.1)))) S r.2 (jL r.1 J)) := by
  obtain ⟨rv, rI⟩ := r
  refine CtW.of (by decide +kernel) (Nat.le_of_ble_eq_true rfl) ⟨Or.inl (sn0 hS), trivial, Or.inl (sn337 hS), trivial⟩ ?_
  show Wp RL cL_move 4 (some .int) (hhE [(0, 9, 12, 18)]) hN d 1 6 0 [(0, .ref 0), (1, .int a1), (2, .ref 337)] [] S I J _
  cases rv with
  | inl x =>
    refine wp_aload_n dL_move_0 rfl rfl ?_
    refine wp_iconst (v := 0) dL_move_1 (by decide) ?_
    refine wp_aload_n dL_move_2 rfl rfl ?_
    refine wp_iload_n dL_move_3 rfl rfl ?_
    refine wp_callVi (ci := 10) (As := [.int a1]) dL_move_4 lbX10_move mlL_46 imX10_move seX10_move vc10 (ct_X10_move N 10 (Nat.le_refl _) hS  h) rfl rfl (Nat.le_trans (by decide) hd) (sk0 hS) (sn0 hS) (Nat.le_of_ble_eq_true rfl) (fun _ => ?_)
    refine wp_i2l dL_move_7 ?_
    refine wp_last (n := 1) dL_move_8 (sk337 hS) (sn337 hS) (inb_in (by decide)) ?_
    refine wp_goto (tgt := 15) dL_move_9 (by decide) ?_
    refine wp_iconst (v := 0) dL_move_15 (by decide) ?_
    exact wp_iret dL_move_16 rfl ⟨rfl, rfl, rfl, rfl⟩
  | inr E =>
    obtain rfl := hE E rfl
    refine wp_aload_n dL_move_0 rfl rfl ?_
    refine wp_iconst (v := 0) dL_move_1 (by decide) ?_
    refine wp_aload_n dL_move_2 rfl rfl ?_
    refine wp_iload_n dL_move_3 rfl rfl ?_
    refine wp_tryVx (i := 3) (hp2 := 13) (ci := 10) (As := [.int a1]) dL_move_4 lbX10_move mlL_46 imX10_move seX10_move vc10 (ct_X10_move N 10 (Nat.le_refl _) hS  h) rfl rfl (Nat.le_trans (by decide) hd) (sk0 hS) (sn0 hS) (Nat.le_of_ble_eq_true rfl) [] ⟨0, 9, 12, 18⟩ [] rfl (fun z hz => nomatch hz) (by decide) (by decide) clL_18 cas_xnN (Or.inl ⟨3, dL_move_12, rfl, rfl⟩) (by decide) ?_
    refine wp_iconst (v := 1) dL_move_13 (by decide) ?_
    exact wp_iret dL_move_14 rfl ⟨rfl, rfl, rfl, rfl⟩
theorem lwL_resize : LkW yL_resize cL_resize 5 (some .int) [(0, 10, 13, 18)] 4 := ⟨inLW (List.mem_append_right _ (List.mem_append_right _ (List.mem_append_right _ (List.mem_append_right _ (List.mem_append_left _ (List.mem_of_getElem? (i := 18) rfl)))))) (by decide +kernel), inLW (List.mem_of_getElem? (i := 0) (by decide +kernel)) (by decide +kernel), ⟨by decide, by decide, by decide +kernel⟩, by decide⟩
set_option maxHeartbeats 4000000 in
set_option maxRecDepth 100000 in
theorem ct_L_resize (N : Nat) (d : Nat) (hd : 11 ≤ d) {S : gS} {J : gJ} (hS : Sh S) {a1 : Int32} {a2 : Int32} {I : gI} {r : (Int32 ⊕ String) × gI} (h : mX10_resize N a1 a2 I = some r) (hE : ∀ E, r.1 = .inr E → E = xnN) : CtW yL_resize cL_resize 5 (some .int) [(0, 10, 13, 18)] d 1 6 [.ref 0, .int a1, .int a2, .ref 337] S I J (qE (.inl (some (.int (kL1 r.1)))) S r.2 (jL r.1 J)) := by
  obtain ⟨rv, rI⟩ := r
  refine CtW.of (by decide +kernel) (Nat.le_of_ble_eq_true rfl) ⟨Or.inl (sn0 hS), trivial, trivial, Or.inl (sn337 hS), trivial⟩ ?_
  show Wp RL cL_resize 5 (some .int) (hhE [(0, 10, 13, 18)]) hN d 1 6 0 [(0, .ref 0), (1, .int a1), (2, .int a2), (3, .ref 337)] [] S I J _
  cases rv with
  | inl x =>
    refine wp_aload_n dL_resize_0 rfl rfl ?_
    refine wp_iconst (v := 0) dL_resize_1 (by decide) ?_
    refine wp_aload_n dL_resize_2 rfl rfl ?_
    refine wp_iload_n dL_resize_3 rfl rfl ?_
    refine wp_iload_n dL_resize_4 rfl rfl ?_
    refine wp_callVi (ci := 10) (As := [.int a1, .int a2]) dL_resize_5 lbX10_resize mlL_49 imX10_resize seX10_resize vc10 (ct_X10_resize N 10 (Nat.le_refl _) hS  h) rfl rfl (Nat.le_trans (by decide) hd) (sk0 hS) (sn0 hS) (Nat.le_of_ble_eq_true rfl) (fun _ => ?_)
    refine wp_i2l dL_resize_8 ?_
    refine wp_last (n := 1) dL_resize_9 (sk337 hS) (sn337 hS) (inb_in (by decide)) ?_
    refine wp_goto (tgt := 17) dL_resize_10 (by decide) ?_
    refine wp_iconst (v := 0) dL_resize_17 (by decide) ?_
    exact wp_iret dL_resize_18 rfl ⟨rfl, rfl, rfl, rfl⟩
  | inr E =>
    obtain rfl := hE E rfl
    refine wp_aload_n dL_resize_0 rfl rfl ?_
    refine wp_iconst (v := 0) dL_resize_1 (by decide) ?_
    refine wp_aload_n dL_resize_2 rfl rfl ?_
    refine wp_iload_n dL_resize_3 rfl rfl ?_
    refine wp_iload_n dL_resize_4 rfl rfl ?_
    refine wp_tryVx (i := 4) (hp2 := 15) (ci := 10) (As := [.int a1, .int a2]) dL_resize_5 lbX10_resize mlL_49 imX10_resize seX10_resize vc10 (ct_X10_resize N 10 (Nat.le_refl _) hS  h) rfl rfl (Nat.le_trans (by decide) hd) (sk0 hS) (sn0 hS) (Nat.le_of_ble_eq_true rfl) [] ⟨0, 10, 13, 18⟩ [] rfl (fun z hz => nomatch hz) (by decide) (by decide) clL_18 cas_xnN (Or.inr ⟨dL_resize_13, rfl⟩) (by decide) ?_
    refine wp_iconst (v := 1) dL_resize_15 (by decide) ?_
    exact wp_iret dL_resize_16 rfl ⟨rfl, rfl, rfl, rfl⟩
theorem lwL_fail : LkW yL_fail cL_fail 4 (some .int) [(0, 9, 12, 18)] 3 := ⟨inLW (List.mem_append_right _ (List.mem_append_right _ (List.mem_append_right _ (List.mem_append_right _ (List.mem_append_left _ (List.mem_of_getElem? (i := 29) rfl)))))) (by decide +kernel), inLW (List.mem_of_getElem? (i := 0) (by decide +kernel)) (by decide +kernel), ⟨by decide, by decide, by decide +kernel⟩, by decide⟩
set_option maxHeartbeats 4000000 in
set_option maxRecDepth 100000 in
theorem ct_L_fail (N : Nat) (d : Nat) (hd : 11 ≤ d) {S : gS} {J : gJ} (hS : Sh S) {a1 : Int32} {I : gI} {r : (Int32 ⊕ String) × gI} (h : mX10_fail N a1 I = some r) (hE : ∀ E, r.1 = .inr E → E = xnN) : CtW yL_fail cL_fail 4 (some .int) [(0, 9, 12, 18)] d 1 6 [.ref 0, .int a1, .ref 337] S I J (qE (.inl (some (.int (kL1 r.1)))) S r.2 (jL r.1 J)) := by
  obtain ⟨rv, rI⟩ := r
  refine CtW.of (by decide +kernel) (Nat.le_of_ble_eq_true rfl) ⟨Or.inl (sn0 hS), trivial, Or.inl (sn337 hS), trivial⟩ ?_
  show Wp RL cL_fail 4 (some .int) (hhE [(0, 9, 12, 18)]) hN d 1 6 0 [(0, .ref 0), (1, .int a1), (2, .ref 337)] [] S I J _
  cases rv with
  | inl x =>
    refine wp_aload_n dL_fail_0 rfl rfl ?_
    refine wp_iconst (v := 0) dL_fail_1 (by decide) ?_
    refine wp_aload_n dL_fail_2 rfl rfl ?_
    refine wp_iload_n dL_fail_3 rfl rfl ?_
    refine wp_callVi (ci := 10) (As := [.int a1]) dL_fail_4 lbX10_fail mlL_52 imX10_fail seX10_fail vc10 (ct_X10_fail N 10 (Nat.le_refl _) hS  h) rfl rfl (Nat.le_trans (by decide) hd) (sk0 hS) (sn0 hS) (Nat.le_of_ble_eq_true rfl) (fun _ => ?_)
    refine wp_i2l dL_fail_7 ?_
    refine wp_last (n := 1) dL_fail_8 (sk337 hS) (sn337 hS) (inb_in (by decide)) ?_
    refine wp_goto (tgt := 15) dL_fail_9 (by decide) ?_
    refine wp_iconst (v := 0) dL_fail_15 (by decide) ?_
    exact wp_iret dL_fail_16 rfl ⟨rfl, rfl, rfl, rfl⟩
  | inr E =>
    obtain rfl := hE E rfl
    refine wp_aload_n dL_fail_0 rfl rfl ?_
    refine wp_iconst (v := 0) dL_fail_1 (by decide) ?_
    refine wp_aload_n dL_fail_2 rfl rfl ?_
    refine wp_iload_n dL_fail_3 rfl rfl ?_
    refine wp_tryVx (i := 3) (hp2 := 13) (ci := 10) (As := [.int a1]) dL_fail_4 lbX10_fail mlL_52 imX10_fail seX10_fail vc10 (ct_X10_fail N 10 (Nat.le_refl _) hS  h) rfl rfl (Nat.le_trans (by decide) hd) (sk0 hS) (sn0 hS) (Nat.le_of_ble_eq_true rfl) [] ⟨0, 9, 12, 18⟩ [] rfl (fun z hz => nomatch hz) (by decide) (by decide) clL_18 cas_xnN (Or.inl ⟨3, dL_fail_12, rfl, rfl⟩) (by decide) ?_
    refine wp_iconst (v := 1) dL_fail_13 (by decide) ?_
    exact wp_iret dL_fail_14 rfl ⟨rfl, rfl, rfl, rfl⟩
theorem lwL_mend : LkW yL_mend cL_mend 4 (some .int) [(0, 16, 19, 18)] 3 := ⟨inLW (List.mem_append_right _ (List.mem_append_right _ (List.mem_append_right _ (List.mem_append_right _ (List.mem_append_left _ (List.mem_of_getElem? (i := 36) rfl)))))) (by decide +kernel), inLW (List.mem_of_getElem? (i := 0) (by decide +kernel)) (by decide +kernel), ⟨by decide, by decide, by decide +kernel⟩, by decide⟩
set_option maxHeartbeats 4000000 in
set_option maxRecDepth 100000 in
theorem ct_L_mend (N : Nat) (d : Nat) (hd : 11 ≤ d) {S : gS} {J : gJ} (hS : Sh S) {a1 : Int32} {I : gI} {r : (Int32 ⊕ String) × gI} (h : mX10_mend N a1 I = some r) (hE : ∀ E, r.1 = .inr E → E = xnN) : CtW yL_mend cL_mend 4 (some .int) [(0, 16, 19, 18)] d 1 6 [.ref 0, .int a1, .ref 337] S I J (qE (.inl (some (.int (kL1 r.1)))) S r.2 (jB r.1 J)) := by
  obtain ⟨rv, rI⟩ := r
  refine CtW.of (by decide +kernel) (Nat.le_of_ble_eq_true rfl) ⟨Or.inl (sn0 hS), trivial, Or.inl (sn337 hS), trivial⟩ ?_
  show Wp RL cL_mend 4 (some .int) (hhE [(0, 16, 19, 18)]) hN d 1 6 0 [(0, .ref 0), (1, .int a1), (2, .ref 337)] [] S I J _
  cases rv with
  | inl x =>
    refine wp_aload_n dL_mend_0 rfl rfl ?_
    refine wp_iconst (v := 0) dL_mend_1 (by decide) ?_
    refine wp_aload_n dL_mend_2 rfl rfl ?_
    refine wp_iload_n dL_mend_3 rfl rfl ?_
    refine wp_callVi (ci := 10) (As := [.int a1]) dL_mend_4 lbX10_mend mlL_55 imX10_mend seX10_mend vc10 (ct_X10_mend N 10 (Nat.le_refl _) hS  h) rfl rfl (Nat.le_trans (by decide) hd) (sk0 hS) (sn0 hS) (Nat.le_of_ble_eq_true rfl) (fun _ => ?_)
    refine wp_if_eq (tgt := 14) dL_mend_7 (by decide) (fun hc => ?_) (fun hc => ?_)
    · refine wp_lconst (v := 0) dL_mend_14 (by decide) ?_
      refine wp_last (n := 1) dL_mend_15 (sk337 hS) (sn337 hS) (inb_in (by decide)) ?_
      refine wp_goto (tgt := 22) dL_mend_16 (by decide) ?_
      refine wp_iconst (v := 0) dL_mend_22 (by decide) ?_
      exact wp_iret dL_mend_23 rfl ⟨rfl, rfl, rfl, by show _ = updJ _ 337 0 _; rw [if_pos hc]; rfl⟩
    · refine wp_lconst (v := 1) dL_mend_10 (by decide) ?_
      refine wp_goto (tgt := 15) dL_mend_11 (by decide) ?_
      refine wp_last (n := 1) dL_mend_15 (sk337 hS) (sn337 hS) (inb_in (by decide)) ?_
      refine wp_goto (tgt := 22) dL_mend_16 (by decide) ?_
      refine wp_iconst (v := 0) dL_mend_22 (by decide) ?_
      exact wp_iret dL_mend_23 rfl ⟨rfl, rfl, rfl, by show _ = updJ _ 337 0 _; rw [if_neg hc]; rfl⟩
  | inr E =>
    obtain rfl := hE E rfl
    refine wp_aload_n dL_mend_0 rfl rfl ?_
    refine wp_iconst (v := 0) dL_mend_1 (by decide) ?_
    refine wp_aload_n dL_mend_2 rfl rfl ?_
    refine wp_iload_n dL_mend_3 rfl rfl ?_
    refine wp_tryVx (i := 3) (hp2 := 20) (ci := 10) (As := [.int a1]) dL_mend_4 lbX10_mend mlL_55 imX10_mend seX10_mend vc10 (ct_X10_mend N 10 (Nat.le_refl _) hS  h) rfl rfl (Nat.le_trans (by decide) hd) (sk0 hS) (sn0 hS) (Nat.le_of_ble_eq_true rfl) [] ⟨0, 16, 19, 18⟩ [] rfl (fun z hz => nomatch hz) (by decide) (by decide) clL_18 cas_xnN (Or.inl ⟨3, dL_mend_19, rfl, rfl⟩) (by decide) ?_
    refine wp_iconst (v := 1) dL_mend_20 (by decide) ?_
    exact wp_iret dL_mend_21 rfl ⟨rfl, rfl, rfl, rfl⟩
theorem lwL_planned : LkW yL_planned cL_planned 5 (some .int) [(0, 10, 13, 18)] 4 := ⟨inLW (List.mem_append_right _ (List.mem_append_right _ (List.mem_append_right _ (List.mem_append_right _ (List.mem_append_left _ (List.mem_of_getElem? (i := 43) rfl)))))) (by decide +kernel), inLW (List.mem_of_getElem? (i := 0) (by decide +kernel)) (by decide +kernel), ⟨by decide, by decide, by decide +kernel⟩, by decide⟩
set_option maxHeartbeats 4000000 in
set_option maxRecDepth 100000 in
theorem ct_L_planned (N : Nat) (d : Nat) (hd : 11 ≤ d) {S : gS} {J : gJ} (hS : Sh S) {a1 : Int32} {a2 : Int32} {I : gI} {r : (Int32 ⊕ String) × gI} (h : mX10_planned N a1 a2 I = some r) (hE : ∀ E, r.1 = .inr E → E = xnN) : CtW yL_planned cL_planned 5 (some .int) [(0, 10, 13, 18)] d 2 12 [.ref 0, .int a1, .int a2, .ref 337] S I J (qE (.inl (some (.int (kL1 r.1)))) S r.2 (jL r.1 J)) := by
  obtain ⟨rv, rI⟩ := r
  refine CtW.of (by decide +kernel) (Nat.le_of_ble_eq_true rfl) ⟨Or.inl (sn0 hS), trivial, trivial, Or.inl (sn337 hS), trivial⟩ ?_
  show Wp RL cL_planned 5 (some .int) (hhE [(0, 10, 13, 18)]) hN d 2 12 0 [(0, .ref 0), (1, .int a1), (2, .int a2), (3, .ref 337)] [] S I J _
  cases rv with
  | inl x =>
    refine wp_aload_n dL_planned_0 rfl rfl ?_
    refine wp_iconst (v := 0) dL_planned_1 (by decide) ?_
    refine wp_aload_n dL_planned_2 rfl rfl ?_
    refine wp_iload_n dL_planned_3 rfl rfl ?_
    refine wp_iload_n dL_planned_4 rfl rfl ?_
    refine wp_callVi (ci := 10) (As := [.int a1, .int a2]) dL_planned_5 lbX10_planned mlL_58 imX10_planned seX10_planned vc10 (ct_X10_planned N 10 (Nat.le_refl _) hS  h) rfl rfl (Nat.le_trans (by decide) hd) (sk0 hS) (sn0 hS) (Nat.le_of_ble_eq_true rfl) (fun _ => ?_)
    refine wp_i2l dL_planned_8 ?_
    refine wp_last (n := 1) dL_planned_9 (sk337 hS) (sn337 hS) (inb_in (by decide)) ?_
    refine wp_goto (tgt := 17) dL_planned_10 (by decide) ?_
    refine wp_iconst (v := 0) dL_planned_17 (by decide) ?_
    exact wp_iret dL_planned_18 rfl ⟨rfl, rfl, rfl, rfl⟩
  | inr E =>
    obtain rfl := hE E rfl
    refine wp_aload_n dL_planned_0 rfl rfl ?_
    refine wp_iconst (v := 0) dL_planned_1 (by decide) ?_
    refine wp_aload_n dL_planned_2 rfl rfl ?_
    refine wp_iload_n dL_planned_3 rfl rfl ?_
    refine wp_iload_n dL_planned_4 rfl rfl ?_
    refine wp_tryVx (i := 4) (hp2 := 15) (ci := 10) (As := [.int a1, .int a2]) dL_planned_5 lbX10_planned mlL_58 imX10_planned seX10_planned vc10 (ct_X10_planned N 10 (Nat.le_refl _) hS  h) rfl rfl (Nat.le_trans (by decide) hd) (sk0 hS) (sn0 hS) (Nat.le_of_ble_eq_true rfl) [] ⟨0, 10, 13, 18⟩ [] rfl (fun z hz => nomatch hz) (by decide) (by decide) clL_18 cas_xnN (Or.inr ⟨dL_planned_13, rfl⟩) (by decide) ?_
    refine wp_iconst (v := 1) dL_planned_15 (by decide) ?_
    exact wp_iret dL_planned_16 rfl ⟨rfl, rfl, rfl, rfl⟩
theorem lwL_order : LkW yL_order cL_order 4 (some .int) [(0, 9, 12, 18)] 3 := ⟨inLW (List.mem_append_right _ (List.mem_append_right _ (List.mem_append_right _ (List.mem_append_right _ (List.mem_append_left _ (List.mem_of_getElem? (i := 54) rfl)))))) (by decide +kernel), inLW (List.mem_of_getElem? (i := 0) (by decide +kernel)) (by decide +kernel), ⟨by decide, by decide, by decide +kernel⟩, by decide⟩
set_option maxHeartbeats 4000000 in
set_option maxRecDepth 100000 in
theorem ct_L_order (N : Nat) (d : Nat) (hd : 17 ≤ d) {S : gS} {J : gJ} (hS : Sh S) {a1 : Int32} {I : gI} {r : (Int32 ⊕ String) × gI} (h : mX10_order N a1 I = some r) (hE : ∀ E, r.1 = .inr E → E = xnN) : CtW yL_order cL_order 4 (some .int) [(0, 9, 12, 18)] d 1 6 [.ref 0, .int a1, .ref 337] S I J (qE (.inl (some (.int (kL1 r.1)))) S r.2 (jL r.1 J)) := by
  obtain ⟨rv, rI⟩ := r
  refine CtW.of (by decide +kernel) (Nat.le_of_ble_eq_true rfl) ⟨Or.inl (sn0 hS), trivial, Or.inl (sn337 hS), trivial⟩ ?_
  show Wp RL cL_order 4 (some .int) (hhE [(0, 9, 12, 18)]) hN d 1 6 0 [(0, .ref 0), (1, .int a1), (2, .ref 337)] [] S I J _
  cases rv with
  | inl x =>
    refine wp_aload_n dL_order_0 rfl rfl ?_
    refine wp_iconst (v := 0) dL_order_1 (by decide) ?_
    refine wp_aload_n dL_order_2 rfl rfl ?_
    refine wp_iload_n dL_order_3 rfl rfl ?_
    refine wp_callVi (ci := 10) (As := [.int a1]) dL_order_4 lbX10_order mlL_61 imX10_order seX10_order vc10 (ct_X10_order N 16 (Nat.le_refl _) hS  h) rfl rfl (Nat.le_trans (by decide) hd) (sk0 hS) (sn0 hS) (Nat.le_of_ble_eq_true rfl) (fun _ => ?_)
    refine wp_i2l dL_order_7 ?_
    refine wp_last (n := 1) dL_order_8 (sk337 hS) (sn337 hS) (inb_in (by decide)) ?_
    refine wp_goto (tgt := 15) dL_order_9 (by decide) ?_
    refine wp_iconst (v := 0) dL_order_15 (by decide) ?_
    exact wp_iret dL_order_16 rfl ⟨rfl, rfl, rfl, rfl⟩
  | inr E =>
    obtain rfl := hE E rfl
    refine wp_aload_n dL_order_0 rfl rfl ?_
    refine wp_iconst (v := 0) dL_order_1 (by decide) ?_
    refine wp_aload_n dL_order_2 rfl rfl ?_
    refine wp_iload_n dL_order_3 rfl rfl ?_
    refine wp_tryVx (i := 3) (hp2 := 13) (ci := 10) (As := [.int a1]) dL_order_4 lbX10_order mlL_61 imX10_order seX10_order vc10 (ct_X10_order N 16 (Nat.le_refl _) hS  h) rfl rfl (Nat.le_trans (by decide) hd) (sk0 hS) (sn0 hS) (Nat.le_of_ble_eq_true rfl) [] ⟨0, 9, 12, 18⟩ [] rfl (fun z hz => nomatch hz) (by decide) (by decide) clL_18 cas_xnN (Or.inl ⟨3, dL_order_12, rfl, rfl⟩) (by decide) ?_
    refine wp_iconst (v := 1) dL_order_13 (by decide) ?_
    exact wp_iret dL_order_14 rfl ⟨rfl, rfl, rfl, rfl⟩
theorem lwL_widest : LkW yL_widest cL_widest 6 (some .int) [(0, 12, 15, 18), (0, 12, 19, 13)] 5 := ⟨inLW (List.mem_append_right _ (List.mem_append_right _ (List.mem_append_right _ (List.mem_append_right _ (List.mem_append_left _ (List.mem_of_getElem? (i := 65) rfl)))))) (by decide +kernel), inLW (List.mem_of_getElem? (i := 0) (by decide +kernel)) (by decide +kernel), ⟨by decide, by decide, by decide +kernel⟩, by decide⟩
set_option maxHeartbeats 4000000 in
set_option maxRecDepth 100000 in
theorem ct_L_widest (N : Nat) (d : Nat) (hd : 11 ≤ d) {S : gS} {J : gJ} (hS : Sh S) {a1 : Int32} {a2 : Int32} {a3 : Int32} {I : gI} {r : (Int32 ⊕ String) × gI} (h : mX10_widest N a1 a2 a3 I = some r) (hE : ∀ E, r.1 = .inr E → E = xnN ∨ E = xnA) : CtW yL_widest cL_widest 6 (some .int) [(0, 12, 15, 18), (0, 12, 19, 13)] d 3 18 [.ref 0, .int a1, .int a2, .int a3, .ref 337] S I J (qE (.inl (some (.int (kL2 r.1)))) S r.2 (jL r.1 J)) := by
  obtain ⟨rv, rI⟩ := r
  refine CtW.of (by decide +kernel) (Nat.le_of_ble_eq_true rfl) ⟨Or.inl (sn0 hS), trivial, trivial, trivial, Or.inl (sn337 hS), trivial⟩ ?_
  show Wp RL cL_widest 6 (some .int) (hhE [(0, 12, 15, 18), (0, 12, 19, 13)]) hN d 3 18 0 [(0, .ref 0), (1, .int a1), (2, .int a2), (3, .int a3), (4, .ref 337)] [] S I J _
  cases rv with
  | inl x =>
    refine wp_aload dL_widest_0 rfl ?_
    refine wp_iconst (v := 0) dL_widest_2 (by decide) ?_
    refine wp_aload_n dL_widest_3 rfl rfl ?_
    refine wp_iload_n dL_widest_4 rfl rfl ?_
    refine wp_iload_n dL_widest_5 rfl rfl ?_
    refine wp_iload_n dL_widest_6 rfl rfl ?_
    refine wp_callVi (ci := 10) (As := [.int a1, .int a2, .int a3]) dL_widest_7 lbX10_widest mlL_64 imX10_widest seX10_widest vc10 (ct_X10_widest N 10 (Nat.le_refl _) hS  h) rfl rfl (Nat.le_trans (by decide) hd) (sk0 hS) (sn0 hS) (Nat.le_of_ble_eq_true rfl) (fun _ => ?_)
    refine wp_i2l dL_widest_10 ?_
    refine wp_last (n := 1) dL_widest_11 (sk337 hS) (sn337 hS) (inb_in (by decide)) ?_
    refine wp_goto (tgt := 23) dL_widest_12 (by decide) ?_
    refine wp_iconst (v := 0) dL_widest_23 (by decide) ?_
    exact wp_iret dL_widest_24 rfl ⟨rfl, rfl, rfl, rfl⟩
  | inr E =>
    rcases hE E rfl with rfl | rfl
    · refine wp_aload dL_widest_0 rfl ?_
      refine wp_iconst (v := 0) dL_widest_2 (by decide) ?_
      refine wp_aload_n dL_widest_3 rfl rfl ?_
      refine wp_iload_n dL_widest_4 rfl rfl ?_
      refine wp_iload_n dL_widest_5 rfl rfl ?_
      refine wp_iload_n dL_widest_6 rfl rfl ?_
      refine wp_tryVx (i := 5) (hp2 := 17) (ci := 10) (As := [.int a1, .int a2, .int a3]) dL_widest_7 lbX10_widest mlL_64 imX10_widest seX10_widest vc10 (ct_X10_widest N 10 (Nat.le_refl _) hS  h) rfl rfl (Nat.le_trans (by decide) hd) (sk0 hS) (sn0 hS) (Nat.le_of_ble_eq_true rfl) [] ⟨0, 12, 15, 18⟩ [⟨0, 12, 19, 13⟩] rfl (fun z hz => nomatch hz) (by decide) (by decide) clL_18 cas_xnN (Or.inr ⟨dL_widest_15, rfl⟩) (by decide) ?_
      refine wp_iconst (v := 1) dL_widest_17 (by decide) ?_
      exact wp_iret dL_widest_18 rfl ⟨rfl, rfl, rfl, rfl⟩
    · refine wp_aload dL_widest_0 rfl ?_
      refine wp_iconst (v := 0) dL_widest_2 (by decide) ?_
      refine wp_aload_n dL_widest_3 rfl rfl ?_
      refine wp_iload_n dL_widest_4 rfl rfl ?_
      refine wp_iload_n dL_widest_5 rfl rfl ?_
      refine wp_iload_n dL_widest_6 rfl rfl ?_
      refine wp_tryVx (i := 5) (hp2 := 21) (ci := 10) (As := [.int a1, .int a2, .int a3]) dL_widest_7 lbX10_widest mlL_64 imX10_widest seX10_widest vc10 (ct_X10_widest N 10 (Nat.le_refl _) hS  h) rfl rfl (Nat.le_trans (by decide) hd) (sk0 hS) (sn0 hS) (Nat.le_of_ble_eq_true rfl) [⟨0, 12, 15, 18⟩] ⟨0, 12, 19, 13⟩ [] rfl (fun z hz => by rw [List.mem_singleton.mp hz]; exact ⟨(by decide), clL_18, rfl⟩) (by decide) (by decide) clL_13 cas_xnA (Or.inr ⟨dL_widest_19, rfl⟩) (by decide) ?_
      refine wp_iconst (v := 2) dL_widest_21 (by decide) ?_
      exact wp_iret dL_widest_22 rfl ⟨rfl, rfl, rfl, rfl⟩
theorem lwL_apart : LkW yL_apart cL_apart 4 (some .int) [(0, 9, 12, 18)] 3 := ⟨inLW (List.mem_append_right _ (List.mem_append_right _ (List.mem_append_right _ (List.mem_append_right _ (List.mem_append_left _ (List.mem_of_getElem? (i := 86) rfl)))))) (by decide +kernel), inLW (List.mem_of_getElem? (i := 0) (by decide +kernel)) (by decide +kernel), ⟨by decide, by decide, by decide +kernel⟩, by decide⟩
set_option maxHeartbeats 4000000 in
set_option maxRecDepth 100000 in
theorem ct_L_apart (N : Nat) (d : Nat) (hd : 17 ≤ d) {S : gS} {J : gJ} (hS : Sh S) {n9 : Nat} (hn9 : n9 = S.2.2) {a1 : Int32} {I : gI} {r : (Int32 ⊕ String) × gI × gJ} (h : mX10_apart N n9 a1 I J = some r) (hE : ∀ E, r.1 = .inr E → E = xnN) : CtW yL_apart cL_apart 4 (some .int) [(0, 9, 12, 18)] d 2 12 [.ref 0, .int a1, .ref 337] S I J (qE (.inl (some (.int (kL1 r.1)))) (oS r.1 (updR (updR (newS S (6, 0)) n9 0 (some 2)) n9 1 (some 30)) S) r.2.1 (jL r.1 r.2.2)) := by
  obtain ⟨rv, rI, rJ⟩ := r
  refine CtW.of (by decide +kernel) (Nat.le_of_ble_eq_true rfl) ⟨Or.inl (sn0 hS), trivial, Or.inl (sn337 hS), trivial⟩ ?_
  show Wp RL cL_apart 4 (some .int) (hhE [(0, 9, 12, 18)]) hN d 2 12 0 [(0, .ref 0), (1, .int a1), (2, .ref 337)] [] S I J _
  cases rv with
  | inl x =>
    refine wp_aload_n dL_apart_0 rfl rfl ?_
    refine wp_iconst (v := 0) dL_apart_1 (by decide) ?_
    refine wp_aload_n dL_apart_2 rfl rfl ?_
    refine wp_iload_n dL_apart_3 rfl rfl ?_
    refine wp_callVi (ci := 10) (As := [.int a1]) dL_apart_4 lbX10_apart mlL_68 imX10_apart seX10_apart vc10 (ct_X10_apart N 16 (Nat.le_refl _) hS hn9 h) rfl rfl (Nat.le_trans (by decide) hd) (sk0 hS) (sn0 hS) (Nat.le_of_ble_eq_true rfl) (fun _ => ?_)
    refine wp_i2l dL_apart_7 ?_
    refine wp_last (n := 1) dL_apart_8 (sk337 (Sh_put2 (by rw [hn9]; exact hS.2.2) (Sh_nw9 hS))) (sn337 (Sh_put2 (by rw [hn9]; exact hS.2.2) (Sh_nw9 hS))) (inb_in (by decide)) ?_
    refine wp_goto (tgt := 15) dL_apart_9 (by decide) ?_
    refine wp_iconst (v := 0) dL_apart_15 (by decide) ?_
    exact wp_iret dL_apart_16 rfl ⟨rfl, rfl, rfl, rfl⟩
  | inr E =>
    obtain rfl := hE E rfl
    refine wp_aload_n dL_apart_0 rfl rfl ?_
    refine wp_iconst (v := 0) dL_apart_1 (by decide) ?_
    refine wp_aload_n dL_apart_2 rfl rfl ?_
    refine wp_iload_n dL_apart_3 rfl rfl ?_
    refine wp_tryVx (i := 3) (hp2 := 13) (ci := 10) (As := [.int a1]) dL_apart_4 lbX10_apart mlL_68 imX10_apart seX10_apart vc10 (ct_X10_apart N 16 (Nat.le_refl _) hS hn9 h) rfl rfl (Nat.le_trans (by decide) hd) (sk0 hS) (sn0 hS) (Nat.le_of_ble_eq_true rfl) [] ⟨0, 9, 12, 18⟩ [] rfl (fun z hz => nomatch hz) (by decide) (by decide) clL_18 cas_xnN (Or.inl ⟨3, dL_apart_12, rfl, rfl⟩) (by decide) ?_
    refine wp_iconst (v := 1) dL_apart_13 (by decide) ?_
    exact wp_iret dL_apart_14 rfl ⟨rfl, rfl, rfl, rfl⟩
theorem lwL_cuts : LkW yL_cuts cL_cuts 5 (some .int) [(0, 10, 13, 18), (0, 10, 17, 13)] 4 := ⟨inLW (List.mem_append_right _ (List.mem_append_right _ (List.mem_append_right _ (List.mem_append_right _ (List.mem_append_left _ (List.mem_of_getElem? (i := 131) rfl)))))) (by decide +kernel), inLW (List.mem_of_getElem? (i := 0) (by decide +kernel)) (by decide +kernel), ⟨by decide, by decide, by decide +kernel⟩, by decide⟩
set_option maxHeartbeats 4000000 in
set_option maxRecDepth 100000 in
theorem ct_L_cuts (N : Nat) (d : Nat) (hd : 11 ≤ d) {S : gS} {J : gJ} (hS : Sh S) {a1 : Int32} {a2 : Int32} {I : gI} {r : (Int32 ⊕ String)} (h : mX10_cuts N a1 a2 I = some r) (hE : ∀ E, r = .inr E → E = xnN ∨ E = xnA) : CtW yL_cuts cL_cuts 5 (some .int) [(0, 10, 13, 18), (0, 10, 17, 13)] d 2 12 [.ref 0, .int a1, .int a2, .ref 337] S I J (qE (.inl (some (.int (kL2 r)))) S I (jL r J)) := by
  refine CtW.of (by decide +kernel) (Nat.le_of_ble_eq_true rfl) ⟨Or.inl (sn0 hS), trivial, trivial, Or.inl (sn337 hS), trivial⟩ ?_
  show Wp RL cL_cuts 5 (some .int) (hhE [(0, 10, 13, 18), (0, 10, 17, 13)]) hN d 2 12 0 [(0, .ref 0), (1, .int a1), (2, .int a2), (3, .ref 337)] [] S I J _
  cases r with
  | inl x =>
    refine wp_aload_n dL_cuts_0 rfl rfl ?_
    refine wp_iconst (v := 0) dL_cuts_1 (by decide) ?_
    refine wp_aload_n dL_cuts_2 rfl rfl ?_
    refine wp_iload_n dL_cuts_3 rfl rfl ?_
    refine wp_iload_n dL_cuts_4 rfl rfl ?_
    refine wp_callVi (ci := 10) (As := [.int a1, .int a2]) dL_cuts_5 lbX10_cuts mlL_71 imX10_cuts seX10_cuts vc10 (ct_X10_cuts N 10 (Nat.le_refl _) hS  h) rfl rfl (Nat.le_trans (by decide) hd) (sk0 hS) (sn0 hS) (Nat.le_of_ble_eq_true rfl) (fun _ => ?_)
    refine wp_i2l dL_cuts_8 ?_
    refine wp_last (n := 1) dL_cuts_9 (sk337 hS) (sn337 hS) (inb_in (by decide)) ?_
    refine wp_goto (tgt := 21) dL_cuts_10 (by decide) ?_
    refine wp_iconst (v := 0) dL_cuts_21 (by decide) ?_
    exact wp_iret dL_cuts_22 rfl ⟨rfl, rfl, rfl, rfl⟩
  | inr E =>
    rcases hE E rfl with rfl | rfl
    · refine wp_aload_n dL_cuts_0 rfl rfl ?_
      refine wp_iconst (v := 0) dL_cuts_1 (by decide) ?_
      refine wp_aload_n dL_cuts_2 rfl rfl ?_
      refine wp_iload_n dL_cuts_3 rfl rfl ?_
      refine wp_iload_n dL_cuts_4 rfl rfl ?_
      refine wp_tryVx (i := 4) (hp2 := 15) (ci := 10) (As := [.int a1, .int a2]) dL_cuts_5 lbX10_cuts mlL_71 imX10_cuts seX10_cuts vc10 (ct_X10_cuts N 10 (Nat.le_refl _) hS  h) rfl rfl (Nat.le_trans (by decide) hd) (sk0 hS) (sn0 hS) (Nat.le_of_ble_eq_true rfl) [] ⟨0, 10, 13, 18⟩ [⟨0, 10, 17, 13⟩] rfl (fun z hz => nomatch hz) (by decide) (by decide) clL_18 cas_xnN (Or.inr ⟨dL_cuts_13, rfl⟩) (by decide) ?_
      refine wp_iconst (v := 1) dL_cuts_15 (by decide) ?_
      exact wp_iret dL_cuts_16 rfl ⟨rfl, rfl, rfl, rfl⟩
    · refine wp_aload_n dL_cuts_0 rfl rfl ?_
      refine wp_iconst (v := 0) dL_cuts_1 (by decide) ?_
      refine wp_aload_n dL_cuts_2 rfl rfl ?_
      refine wp_iload_n dL_cuts_3 rfl rfl ?_
      refine wp_iload_n dL_cuts_4 rfl rfl ?_
      refine wp_tryVx (i := 4) (hp2 := 19) (ci := 10) (As := [.int a1, .int a2]) dL_cuts_5 lbX10_cuts mlL_71 imX10_cuts seX10_cuts vc10 (ct_X10_cuts N 10 (Nat.le_refl _) hS  h) rfl rfl (Nat.le_trans (by decide) hd) (sk0 hS) (sn0 hS) (Nat.le_of_ble_eq_true rfl) [⟨0, 10, 13, 18⟩] ⟨0, 10, 17, 13⟩ [] rfl (fun z hz => by rw [List.mem_singleton.mp hz]; exact ⟨(by decide), clL_18, rfl⟩) (by decide) (by decide) clL_13 cas_xnA (Or.inr ⟨dL_cuts_17, rfl⟩) (by decide) ?_
      refine wp_iconst (v := 2) dL_cuts_19 (by decide) ?_
      exact wp_iret dL_cuts_20 rfl ⟨rfl, rfl, rfl, rfl⟩
theorem lwL_flow : LkW yL_flow cL_flow 6 (some .int) [(0, 12, 15, 18), (0, 12, 19, 13)] 5 := ⟨inLW (List.mem_append_right _ (List.mem_append_right _ (List.mem_append_right _ (List.mem_append_right _ (List.mem_append_left _ (List.mem_of_getElem? (i := 142) rfl)))))) (by decide +kernel), inLW (List.mem_of_getElem? (i := 0) (by decide +kernel)) (by decide +kernel), ⟨by decide, by decide, by decide +kernel⟩, by decide⟩
set_option maxHeartbeats 4000000 in
set_option maxRecDepth 100000 in
theorem ct_L_flow (N : Nat) (d : Nat) (hd : 11 ≤ d) {S : gS} {J : gJ} (hS : Sh S) {a1 : Int32} {a2 : Int32} {a3 : Int32} {I : gI} {r : (Int32 ⊕ String) × gI} (h : mX10_flow N a1 a2 a3 I = some r) (hE : ∀ E, r.1 = .inr E → E = xnN ∨ E = xnA) : CtW yL_flow cL_flow 6 (some .int) [(0, 12, 15, 18), (0, 12, 19, 13)] d 3 18 [.ref 0, .int a1, .int a2, .int a3, .ref 337] S I J (qE (.inl (some (.int (kL2 r.1)))) S r.2 (jL r.1 J)) := by
  obtain ⟨rv, rI⟩ := r
  refine CtW.of (by decide +kernel) (Nat.le_of_ble_eq_true rfl) ⟨Or.inl (sn0 hS), trivial, trivial, trivial, Or.inl (sn337 hS), trivial⟩ ?_
  show Wp RL cL_flow 6 (some .int) (hhE [(0, 12, 15, 18), (0, 12, 19, 13)]) hN d 3 18 0 [(0, .ref 0), (1, .int a1), (2, .int a2), (3, .int a3), (4, .ref 337)] [] S I J _
  cases rv with
  | inl x =>
    refine wp_aload dL_flow_0 rfl ?_
    refine wp_iconst (v := 0) dL_flow_2 (by decide) ?_
    refine wp_aload_n dL_flow_3 rfl rfl ?_
    refine wp_iload_n dL_flow_4 rfl rfl ?_
    refine wp_iload_n dL_flow_5 rfl rfl ?_
    refine wp_iload_n dL_flow_6 rfl rfl ?_
    refine wp_callVi (ci := 10) (As := [.int a1, .int a2, .int a3]) dL_flow_7 lbX10_flow mlL_74 imX10_flow seX10_flow vc10 (ct_X10_flow N 10 (Nat.le_refl _) hS  h) rfl rfl (Nat.le_trans (by decide) hd) (sk0 hS) (sn0 hS) (Nat.le_of_ble_eq_true rfl) (fun _ => ?_)
    refine wp_i2l dL_flow_10 ?_
    refine wp_last (n := 1) dL_flow_11 (sk337 hS) (sn337 hS) (inb_in (by decide)) ?_
    refine wp_goto (tgt := 23) dL_flow_12 (by decide) ?_
    refine wp_iconst (v := 0) dL_flow_23 (by decide) ?_
    exact wp_iret dL_flow_24 rfl ⟨rfl, rfl, rfl, rfl⟩
  | inr E =>
    rcases hE E rfl with rfl | rfl
    · refine wp_aload dL_flow_0 rfl ?_
      refine wp_iconst (v := 0) dL_flow_2 (by decide) ?_
      refine wp_aload_n dL_flow_3 rfl rfl ?_
      refine wp_iload_n dL_flow_4 rfl rfl ?_
      refine wp_iload_n dL_flow_5 rfl rfl ?_
      refine wp_iload_n dL_flow_6 rfl rfl ?_
      refine wp_tryVx (i := 5) (hp2 := 17) (ci := 10) (As := [.int a1, .int a2, .int a3]) dL_flow_7 lbX10_flow mlL_74 imX10_flow seX10_flow vc10 (ct_X10_flow N 10 (Nat.le_refl _) hS  h) rfl rfl (Nat.le_trans (by decide) hd) (sk0 hS) (sn0 hS) (Nat.le_of_ble_eq_true rfl) [] ⟨0, 12, 15, 18⟩ [⟨0, 12, 19, 13⟩] rfl (fun z hz => nomatch hz) (by decide) (by decide) clL_18 cas_xnN (Or.inr ⟨dL_flow_15, rfl⟩) (by decide) ?_
      refine wp_iconst (v := 1) dL_flow_17 (by decide) ?_
      exact wp_iret dL_flow_18 rfl ⟨rfl, rfl, rfl, rfl⟩
    · refine wp_aload dL_flow_0 rfl ?_
      refine wp_iconst (v := 0) dL_flow_2 (by decide) ?_
      refine wp_aload_n dL_flow_3 rfl rfl ?_
      refine wp_iload_n dL_flow_4 rfl rfl ?_
      refine wp_iload_n dL_flow_5 rfl rfl ?_
      refine wp_iload_n dL_flow_6 rfl rfl ?_
      refine wp_tryVx (i := 5) (hp2 := 21) (ci := 10) (As := [.int a1, .int a2, .int a3]) dL_flow_7 lbX10_flow mlL_74 imX10_flow seX10_flow vc10 (ct_X10_flow N 10 (Nat.le_refl _) hS  h) rfl rfl (Nat.le_trans (by decide) hd) (sk0 hS) (sn0 hS) (Nat.le_of_ble_eq_true rfl) [⟨0, 12, 15, 18⟩] ⟨0, 12, 19, 13⟩ [] rfl (fun z hz => by rw [List.mem_singleton.mp hz]; exact ⟨(by decide), clL_18, rfl⟩) (by decide) (by decide) clL_13 cas_xnA (Or.inr ⟨dL_flow_19, rfl⟩) (by decide) ?_
      refine wp_iconst (v := 2) dL_flow_21 (by decide) ?_
      exact wp_iret dL_flow_22 rfl ⟨rfl, rfl, rfl, rfl⟩
theorem lwL_distance : LkW yL_distance cL_distance 5 (some .int) [(0, 10, 13, 18)] 4 := ⟨inLW (List.mem_append_right _ (List.mem_append_right _ (List.mem_append_right _ (List.mem_append_right _ (List.mem_append_left _ (List.mem_of_getElem? (i := 161) rfl)))))) (by decide +kernel), inLW (List.mem_of_getElem? (i := 0) (by decide +kernel)) (by decide +kernel), ⟨by decide, by decide, by decide +kernel⟩, by decide⟩
set_option maxHeartbeats 4000000 in
set_option maxRecDepth 100000 in
theorem ct_L_distance (N : Nat) (d : Nat) (hd : 11 ≤ d) {S : gS} {J : gJ} (hS : Sh S) {a1 : Int32} {a2 : Int32} {I : gI} {r : (Int32 ⊕ String) × gI} (h : mX10_distance N a1 a2 I = some r) (hE : ∀ E, r.1 = .inr E → E = xnN) : CtW yL_distance cL_distance 5 (some .int) [(0, 10, 13, 18)] d 1 6 [.ref 0, .int a1, .int a2, .ref 337] S I J (qE (.inl (some (.int (kL1 r.1)))) S r.2 (jL r.1 J)) := by
  obtain ⟨rv, rI⟩ := r
  refine CtW.of (by decide +kernel) (Nat.le_of_ble_eq_true rfl) ⟨Or.inl (sn0 hS), trivial, trivial, Or.inl (sn337 hS), trivial⟩ ?_
  show Wp RL cL_distance 5 (some .int) (hhE [(0, 10, 13, 18)]) hN d 1 6 0 [(0, .ref 0), (1, .int a1), (2, .int a2), (3, .ref 337)] [] S I J _
  cases rv with
  | inl x =>
    refine wp_aload_n dL_distance_0 rfl rfl ?_
    refine wp_iconst (v := 0) dL_distance_1 (by decide) ?_
    refine wp_aload_n dL_distance_2 rfl rfl ?_
    refine wp_iload_n dL_distance_3 rfl rfl ?_
    refine wp_iload_n dL_distance_4 rfl rfl ?_
    refine wp_callVi (ci := 10) (As := [.int a1, .int a2]) dL_distance_5 lbX10_distance mlL_77 imX10_distance seX10_distance vc10 (ct_X10_distance N 10 (Nat.le_refl _) hS  h) rfl rfl (Nat.le_trans (by decide) hd) (sk0 hS) (sn0 hS) (Nat.le_of_ble_eq_true rfl) (fun _ => ?_)
    refine wp_i2l dL_distance_8 ?_
    refine wp_last (n := 1) dL_distance_9 (sk337 hS) (sn337 hS) (inb_in (by decide)) ?_
    refine wp_goto (tgt := 17) dL_distance_10 (by decide) ?_
    refine wp_iconst (v := 0) dL_distance_17 (by decide) ?_
    exact wp_iret dL_distance_18 rfl ⟨rfl, rfl, rfl, rfl⟩
  | inr E =>
    obtain rfl := hE E rfl
    refine wp_aload_n dL_distance_0 rfl rfl ?_
    refine wp_iconst (v := 0) dL_distance_1 (by decide) ?_
    refine wp_aload_n dL_distance_2 rfl rfl ?_
    refine wp_iload_n dL_distance_3 rfl rfl ?_
    refine wp_iload_n dL_distance_4 rfl rfl ?_
    refine wp_tryVx (i := 4) (hp2 := 15) (ci := 10) (As := [.int a1, .int a2]) dL_distance_5 lbX10_distance mlL_77 imX10_distance seX10_distance vc10 (ct_X10_distance N 10 (Nat.le_refl _) hS  h) rfl rfl (Nat.le_trans (by decide) hd) (sk0 hS) (sn0 hS) (Nat.le_of_ble_eq_true rfl) [] ⟨0, 10, 13, 18⟩ [] rfl (fun z hz => nomatch hz) (by decide) (by decide) clL_18 cas_xnN (Or.inr ⟨dL_distance_13, rfl⟩) (by decide) ?_
    refine wp_iconst (v := 1) dL_distance_15 (by decide) ?_
    exact wp_iret dL_distance_16 rfl ⟨rfl, rfl, rfl, rfl⟩
theorem lwL_room : LkW yL_room cL_room 4 (some .int) [(0, 9, 12, 18)] 3 := ⟨inLW (List.mem_append_right _ (List.mem_append_right _ (List.mem_append_right _ (List.mem_append_right _ (List.mem_append_left _ (List.mem_of_getElem? (i := 170) rfl)))))) (by decide +kernel), inLW (List.mem_of_getElem? (i := 0) (by decide +kernel)) (by decide +kernel), ⟨by decide, by decide, by decide +kernel⟩, by decide⟩
set_option maxHeartbeats 4000000 in
set_option maxRecDepth 100000 in
theorem ct_L_room (N : Nat) (d : Nat) (hd : 11 ≤ d) {S : gS} {J : gJ} (hS : Sh S) {a1 : Int32} {I : gI} {r : (Int32 ⊕ String) × gI} (h : mX10_room N a1 I = some r) (hE : ∀ E, r.1 = .inr E → E = xnN) : CtW yL_room cL_room 4 (some .int) [(0, 9, 12, 18)] d 1 6 [.ref 0, .int a1, .ref 337] S I J (qE (.inl (some (.int (kL1 r.1)))) S r.2 (jL r.1 J)) := by
  obtain ⟨rv, rI⟩ := r
  refine CtW.of (by decide +kernel) (Nat.le_of_ble_eq_true rfl) ⟨Or.inl (sn0 hS), trivial, Or.inl (sn337 hS), trivial⟩ ?_
  show Wp RL cL_room 4 (some .int) (hhE [(0, 9, 12, 18)]) hN d 1 6 0 [(0, .ref 0), (1, .int a1), (2, .ref 337)] [] S I J _
  cases rv with
  | inl x =>
    refine wp_aload_n dL_room_0 rfl rfl ?_
    refine wp_iconst (v := 0) dL_room_1 (by decide) ?_
    refine wp_aload_n dL_room_2 rfl rfl ?_
    refine wp_iload_n dL_room_3 rfl rfl ?_
    refine wp_callVi (ci := 10) (As := [.int a1]) dL_room_4 lbX10_room mlL_80 imX10_room seX10_room vc10 (ct_X10_room N 10 (Nat.le_refl _) hS  h) rfl rfl (Nat.le_trans (by decide) hd) (sk0 hS) (sn0 hS) (Nat.le_of_ble_eq_true rfl) (fun _ => ?_)
    refine wp_i2l dL_room_7 ?_
    refine wp_last (n := 1) dL_room_8 (sk337 hS) (sn337 hS) (inb_in (by decide)) ?_
    refine wp_goto (tgt := 15) dL_room_9 (by decide) ?_
    refine wp_iconst (v := 0) dL_room_15 (by decide) ?_
    exact wp_iret dL_room_16 rfl ⟨rfl, rfl, rfl, rfl⟩
  | inr E =>
    obtain rfl := hE E rfl
    refine wp_aload_n dL_room_0 rfl rfl ?_
    refine wp_iconst (v := 0) dL_room_1 (by decide) ?_
    refine wp_aload_n dL_room_2 rfl rfl ?_
    refine wp_iload_n dL_room_3 rfl rfl ?_
    refine wp_tryVx (i := 3) (hp2 := 13) (ci := 10) (As := [.int a1]) dL_room_4 lbX10_room mlL_80 imX10_room seX10_room vc10 (ct_X10_room N 10 (Nat.le_refl _) hS  h) rfl rfl (Nat.le_trans (by decide) hd) (sk0 hS) (sn0 hS) (Nat.le_of_ble_eq_true rfl) [] ⟨0, 9, 12, 18⟩ [] rfl (fun z hz => nomatch hz) (by decide) (by decide) clL_18 cas_xnN (Or.inl ⟨3, dL_room_12, rfl, rfl⟩) (by decide) ?_
    refine wp_iconst (v := 1) dL_room_13 (by decide) ?_
    exact wp_iret dL_room_14 rfl ⟨rfl, rfl, rfl, rfl⟩
theorem lwL_saved : LkW yL_saved cL_saved 4 (some .int) [(0, 9, 12, 18)] 3 := ⟨inLW (List.mem_append_right _ (List.mem_append_right _ (List.mem_append_right _ (List.mem_append_right _ (List.mem_append_left _ (List.mem_of_getElem? (i := 177) rfl)))))) (by decide +kernel), inLW (List.mem_of_getElem? (i := 0) (by decide +kernel)) (by decide +kernel), ⟨by decide, by decide, by decide +kernel⟩, by decide⟩
set_option maxHeartbeats 4000000 in
set_option maxRecDepth 100000 in
theorem ct_L_saved (N : Nat) (d : Nat) (hd : 11 ≤ d) {S : gS} {J : gJ} (hS : Sh S) {a1 : Int32} {I : gI} {r : (Int32 ⊕ String)} (h : mX10_saved N a1 I = some r) (hE : ∀ E, r = .inr E → E = xnN) : CtW yL_saved cL_saved 4 (some .int) [(0, 9, 12, 18)] d 1 6 [.ref 0, .int a1, .ref 337] S I J (qE (.inl (some (.int (kL1 r)))) S I (jL r J)) := by
  refine CtW.of (by decide +kernel) (Nat.le_of_ble_eq_true rfl) ⟨Or.inl (sn0 hS), trivial, Or.inl (sn337 hS), trivial⟩ ?_
  show Wp RL cL_saved 4 (some .int) (hhE [(0, 9, 12, 18)]) hN d 1 6 0 [(0, .ref 0), (1, .int a1), (2, .ref 337)] [] S I J _
  cases r with
  | inl x =>
    refine wp_aload_n dL_saved_0 rfl rfl ?_
    refine wp_iconst (v := 0) dL_saved_1 (by decide) ?_
    refine wp_aload_n dL_saved_2 rfl rfl ?_
    refine wp_iload_n dL_saved_3 rfl rfl ?_
    refine wp_callVi (ci := 10) (As := [.int a1]) dL_saved_4 lbX10_saved mlL_83 imX10_saved seX10_saved vc10 (ct_X10_saved N 10 (Nat.le_refl _) hS  h) rfl rfl (Nat.le_trans (by decide) hd) (sk0 hS) (sn0 hS) (Nat.le_of_ble_eq_true rfl) (fun _ => ?_)
    refine wp_i2l dL_saved_7 ?_
    refine wp_last (n := 1) dL_saved_8 (sk337 hS) (sn337 hS) (inb_in (by decide)) ?_
    refine wp_goto (tgt := 15) dL_saved_9 (by decide) ?_
    refine wp_iconst (v := 0) dL_saved_15 (by decide) ?_
    exact wp_iret dL_saved_16 rfl ⟨rfl, rfl, rfl, rfl⟩
  | inr E =>
    obtain rfl := hE E rfl
    refine wp_aload_n dL_saved_0 rfl rfl ?_
    refine wp_iconst (v := 0) dL_saved_1 (by decide) ?_
    refine wp_aload_n dL_saved_2 rfl rfl ?_
    refine wp_iload_n dL_saved_3 rfl rfl ?_
    refine wp_tryVx (i := 3) (hp2 := 13) (ci := 10) (As := [.int a1]) dL_saved_4 lbX10_saved mlL_83 imX10_saved seX10_saved vc10 (ct_X10_saved N 10 (Nat.le_refl _) hS  h) rfl rfl (Nat.le_trans (by decide) hd) (sk0 hS) (sn0 hS) (Nat.le_of_ble_eq_true rfl) [] ⟨0, 9, 12, 18⟩ [] rfl (fun z hz => nomatch hz) (by decide) (by decide) clL_18 cas_xnN (Or.inl ⟨3, dL_saved_12, rfl, rfl⟩) (by decide) ?_
    refine wp_iconst (v := 1) dL_saved_13 (by decide) ?_
    exact wp_iret dL_saved_14 rfl ⟨rfl, rfl, rfl, rfl⟩
theorem lwL_see : LkW yL_see cL_see 8 (some .int) [(0, 16, 19, 18)] 7 := ⟨inLW (List.mem_append_right _ (List.mem_append_right _ (List.mem_append_right _ (List.mem_append_right _ (List.mem_append_left _ (List.mem_of_getElem? (i := 189) rfl)))))) (by decide +kernel), inLW (List.mem_of_getElem? (i := 0) (by decide +kernel)) (by decide +kernel), ⟨by decide, by decide, by decide +kernel⟩, by decide⟩
set_option maxHeartbeats 4000000 in
set_option maxRecDepth 100000 in
theorem ct_L_see (d : Nat) (hd : 11 ≤ d) {S : gS} {J : gJ} (hS : Sh S) {a1 : Int32} {a2 : Int32} {a3 : Int32} {a4 : Int32} {a5 : Int32} {I : gI} {r : (Int32 ⊕ String) × gI} (h : mX10_see a1 a2 a3 a4 a5 I = some r) (hE : ∀ E, r.1 = .inr E → E = xnN) : CtW yL_see cL_see 8 (some .int) [(0, 16, 19, 18)] d 1 6 [.ref 0, .int a1, .int a2, .int a3, .int a4, .int a5, .ref 337] S I J (qE (.inl (some (.int (kL1 r.1)))) S r.2 (jL r.1 J)) := by
  obtain ⟨rv, rI⟩ := r
  refine CtW.of (by decide +kernel) (Nat.le_of_ble_eq_true rfl) ⟨Or.inl (sn0 hS), trivial, trivial, trivial, trivial, trivial, Or.inl (sn337 hS), trivial⟩ ?_
  show Wp RL cL_see 8 (some .int) (hhE [(0, 16, 19, 18)]) hN d 1 6 0 [(0, .ref 0), (1, .int a1), (2, .int a2), (3, .int a3), (4, .int a4), (5, .int a5), (6, .ref 337)] [] S I J _
  cases rv with
  | inl x =>
    refine wp_aload dL_see_0 rfl ?_
    refine wp_iconst (v := 0) dL_see_2 (by decide) ?_
    refine wp_aload_n dL_see_3 rfl rfl ?_
    refine wp_iload_n dL_see_4 rfl rfl ?_
    refine wp_iload_n dL_see_5 rfl rfl ?_
    refine wp_iload_n dL_see_6 rfl rfl ?_
    refine wp_iload dL_see_7 rfl ?_
    refine wp_iload dL_see_9 rfl ?_
    refine wp_callVi (ci := 10) (As := [.int a1, .int a2, .int a3, .int a4, .int a5]) dL_see_11 lbX10_see mlL_86 imX10_see seX10_see vc10 (ct_X10_see 10 (Nat.le_refl _) hS  h) rfl rfl (Nat.le_trans (by decide) hd) (sk0 hS) (sn0 hS) (Nat.le_of_ble_eq_true rfl) (fun _ => ?_)
    refine wp_i2l dL_see_14 ?_
    refine wp_last (n := 1) dL_see_15 (sk337 hS) (sn337 hS) (inb_in (by decide)) ?_
    refine wp_goto (tgt := 23) dL_see_16 (by decide) ?_
    refine wp_iconst (v := 0) dL_see_23 (by decide) ?_
    exact wp_iret dL_see_24 rfl ⟨rfl, rfl, rfl, rfl⟩
  | inr E =>
    obtain rfl := hE E rfl
    refine wp_aload dL_see_0 rfl ?_
    refine wp_iconst (v := 0) dL_see_2 (by decide) ?_
    refine wp_aload_n dL_see_3 rfl rfl ?_
    refine wp_iload_n dL_see_4 rfl rfl ?_
    refine wp_iload_n dL_see_5 rfl rfl ?_
    refine wp_iload_n dL_see_6 rfl rfl ?_
    refine wp_iload dL_see_7 rfl ?_
    refine wp_iload dL_see_9 rfl ?_
    refine wp_tryVx (i := 7) (hp2 := 21) (ci := 10) (As := [.int a1, .int a2, .int a3, .int a4, .int a5]) dL_see_11 lbX10_see mlL_86 imX10_see seX10_see vc10 (ct_X10_see 10 (Nat.le_refl _) hS  h) rfl rfl (Nat.le_trans (by decide) hd) (sk0 hS) (sn0 hS) (Nat.le_of_ble_eq_true rfl) [] ⟨0, 16, 19, 18⟩ [] rfl (fun z hz => nomatch hz) (by decide) (by decide) clL_18 cas_xnN (Or.inr ⟨dL_see_19, rfl⟩) (by decide) ?_
    refine wp_iconst (v := 1) dL_see_21 (by decide) ?_
    exact wp_iret dL_see_22 rfl ⟨rfl, rfl, rfl, rfl⟩
theorem lwL_other : LkW yL_other cL_other 4 (some .int) [(0, 9, 12, 18)] 3 := ⟨inLW (List.mem_append_right _ (List.mem_append_right _ (List.mem_append_right _ (List.mem_append_right _ (List.mem_append_left _ (List.mem_of_getElem? (i := 200) rfl)))))) (by decide +kernel), inLW (List.mem_of_getElem? (i := 0) (by decide +kernel)) (by decide +kernel), ⟨by decide, by decide, by decide +kernel⟩, by decide⟩
set_option maxHeartbeats 4000000 in
set_option maxRecDepth 100000 in
theorem ct_L_other (N : Nat) (d : Nat) (hd : 10 ≤ d) {S : gS} {J : gJ} (hS : Sh S) {a1 : Int32} {I : gI} {r : (Int32 ⊕ String) × gI} (h : mX10_other N a1 I = some r) (hE : ∀ E, r.1 = .inr E → E = xnN) : CtW yL_other cL_other 4 (some .int) [(0, 9, 12, 18)] d 1 6 [.ref 0, .int a1, .ref 337] S I J (qE (.inl (some (.int (kL1 r.1)))) S r.2 (jL r.1 J)) := by
  obtain ⟨rv, rI⟩ := r
  refine CtW.of (by decide +kernel) (Nat.le_of_ble_eq_true rfl) ⟨Or.inl (sn0 hS), trivial, Or.inl (sn337 hS), trivial⟩ ?_
  show Wp RL cL_other 4 (some .int) (hhE [(0, 9, 12, 18)]) hN d 1 6 0 [(0, .ref 0), (1, .int a1), (2, .ref 337)] [] S I J _
  cases rv with
  | inl x =>
    refine wp_aload_n dL_other_0 rfl rfl ?_
    refine wp_iconst (v := 0) dL_other_1 (by decide) ?_
    refine wp_aload_n dL_other_2 rfl rfl ?_
    refine wp_iload_n dL_other_3 rfl rfl ?_
    refine wp_callVi (ci := 10) (As := [.int a1]) dL_other_4 lbX10_other mlL_90 imX10_other seX10_other vc10 (ct_X10_other N 9 (Nat.le_refl _) hS  h) rfl rfl (Nat.le_trans (by decide) hd) (sk0 hS) (sn0 hS) (Nat.le_of_ble_eq_true rfl) (fun _ => ?_)
    refine wp_i2l dL_other_7 ?_
    refine wp_last (n := 1) dL_other_8 (sk337 hS) (sn337 hS) (inb_in (by decide)) ?_
    refine wp_goto (tgt := 15) dL_other_9 (by decide) ?_
    refine wp_iconst (v := 0) dL_other_15 (by decide) ?_
    exact wp_iret dL_other_16 rfl ⟨rfl, rfl, rfl, rfl⟩
  | inr E =>
    obtain rfl := hE E rfl
    refine wp_aload_n dL_other_0 rfl rfl ?_
    refine wp_iconst (v := 0) dL_other_1 (by decide) ?_
    refine wp_aload_n dL_other_2 rfl rfl ?_
    refine wp_iload_n dL_other_3 rfl rfl ?_
    refine wp_tryVx (i := 3) (hp2 := 13) (ci := 10) (As := [.int a1]) dL_other_4 lbX10_other mlL_90 imX10_other seX10_other vc10 (ct_X10_other N 9 (Nat.le_refl _) hS  h) rfl rfl (Nat.le_trans (by decide) hd) (sk0 hS) (sn0 hS) (Nat.le_of_ble_eq_true rfl) [] ⟨0, 9, 12, 18⟩ [] rfl (fun z hz => nomatch hz) (by decide) (by decide) clL_18 cas_xnN (Or.inl ⟨3, dL_other_12, rfl, rfl⟩) (by decide) ?_
    refine wp_iconst (v := 1) dL_other_13 (by decide) ?_
    exact wp_iret dL_other_14 rfl ⟨rfl, rfl, rfl, rfl⟩
theorem lwL_luck : LkW yL_luck cL_luck 5 (some .int) [(0, 10, 13, 18), (0, 10, 17, 13)] 4 := ⟨inLW (List.mem_append_right _ (List.mem_append_right _ (List.mem_append_right _ (List.mem_append_right _ (List.mem_append_left _ (List.mem_of_getElem? (i := 231) rfl)))))) (by decide +kernel), inLW (List.mem_of_getElem? (i := 0) (by decide +kernel)) (by decide +kernel), ⟨by decide, by decide, by decide +kernel⟩, by decide⟩
set_option maxHeartbeats 4000000 in
set_option maxRecDepth 100000 in
theorem ct_L_luck (N : Nat) (d : Nat) (hd : 11 ≤ d) {S : gS} {J : gJ} (hS : Sh S) {a1 : Int32} {a2 : Int32} {I : gI} {r : (Int32 ⊕ String)} (h : mX10_luck N a1 a2 I = some r) (hE : ∀ E, r = .inr E → E = xnN ∨ E = xnA) : CtW yL_luck cL_luck 5 (some .int) [(0, 10, 13, 18), (0, 10, 17, 13)] d 2 12 [.ref 0, .int a1, .int a2, .ref 337] S I J (qE (.inl (some (.int (kL2 r)))) S I (jL r J)) := by
  refine CtW.of (by decide +kernel) (Nat.le_of_ble_eq_true rfl) ⟨Or.inl (sn0 hS), trivial, trivial, Or.inl (sn337 hS), trivial⟩ ?_
  show Wp RL cL_luck 5 (some .int) (hhE [(0, 10, 13, 18), (0, 10, 17, 13)]) hN d 2 12 0 [(0, .ref 0), (1, .int a1), (2, .int a2), (3, .ref 337)] [] S I J _
  cases r with
  | inl x =>
    refine wp_aload_n dL_luck_0 rfl rfl ?_
    refine wp_iconst (v := 0) dL_luck_1 (by decide) ?_
    refine wp_aload_n dL_luck_2 rfl rfl ?_
    refine wp_iload_n dL_luck_3 rfl rfl ?_
    refine wp_iload_n dL_luck_4 rfl rfl ?_
    refine wp_callVi (ci := 10) (As := [.int a1, .int a2]) dL_luck_5 lbX10_luck mlL_93 imX10_luck seX10_luck vc10 (ct_X10_luck N 10 (Nat.le_refl _) hS  h) rfl rfl (Nat.le_trans (by decide) hd) (sk0 hS) (sn0 hS) (Nat.le_of_ble_eq_true rfl) (fun _ => ?_)
    refine wp_i2l dL_luck_8 ?_
    refine wp_last (n := 1) dL_luck_9 (sk337 hS) (sn337 hS) (inb_in (by decide)) ?_
    refine wp_goto (tgt := 21) dL_luck_10 (by decide) ?_
    refine wp_iconst (v := 0) dL_luck_21 (by decide) ?_
    exact wp_iret dL_luck_22 rfl ⟨rfl, rfl, rfl, rfl⟩
  | inr E =>
    rcases hE E rfl with rfl | rfl
    · refine wp_aload_n dL_luck_0 rfl rfl ?_
      refine wp_iconst (v := 0) dL_luck_1 (by decide) ?_
      refine wp_aload_n dL_luck_2 rfl rfl ?_
      refine wp_iload_n dL_luck_3 rfl rfl ?_
      refine wp_iload_n dL_luck_4 rfl rfl ?_
      refine wp_tryVx (i := 4) (hp2 := 15) (ci := 10) (As := [.int a1, .int a2]) dL_luck_5 lbX10_luck mlL_93 imX10_luck seX10_luck vc10 (ct_X10_luck N 10 (Nat.le_refl _) hS  h) rfl rfl (Nat.le_trans (by decide) hd) (sk0 hS) (sn0 hS) (Nat.le_of_ble_eq_true rfl) [] ⟨0, 10, 13, 18⟩ [⟨0, 10, 17, 13⟩] rfl (fun z hz => nomatch hz) (by decide) (by decide) clL_18 cas_xnN (Or.inr ⟨dL_luck_13, rfl⟩) (by decide) ?_
      refine wp_iconst (v := 1) dL_luck_15 (by decide) ?_
      exact wp_iret dL_luck_16 rfl ⟨rfl, rfl, rfl, rfl⟩
    · refine wp_aload_n dL_luck_0 rfl rfl ?_
      refine wp_iconst (v := 0) dL_luck_1 (by decide) ?_
      refine wp_aload_n dL_luck_2 rfl rfl ?_
      refine wp_iload_n dL_luck_3 rfl rfl ?_
      refine wp_iload_n dL_luck_4 rfl rfl ?_
      refine wp_tryVx (i := 4) (hp2 := 19) (ci := 10) (As := [.int a1, .int a2]) dL_luck_5 lbX10_luck mlL_93 imX10_luck seX10_luck vc10 (ct_X10_luck N 10 (Nat.le_refl _) hS  h) rfl rfl (Nat.le_trans (by decide) hd) (sk0 hS) (sn0 hS) (Nat.le_of_ble_eq_true rfl) [⟨0, 10, 13, 18⟩] ⟨0, 10, 17, 13⟩ [] rfl (fun z hz => by rw [List.mem_singleton.mp hz]; exact ⟨(by decide), clL_18, rfl⟩) (by decide) (by decide) clL_13 cas_xnA (Or.inr ⟨dL_luck_17, rfl⟩) (by decide) ?_
      refine wp_iconst (v := 2) dL_luck_19 (by decide) ?_
      exact wp_iret dL_luck_20 rfl ⟨rfl, rfl, rfl, rfl⟩
theorem lwL_years : LkW yL_years cL_years 6 (some .int) [(0, 12, 15, 18), (0, 12, 19, 13)] 5 := ⟨inLW (List.mem_append_right _ (List.mem_append_right _ (List.mem_append_right _ (List.mem_append_right _ (List.mem_append_right _ (List.mem_append_left _ (List.mem_of_getElem? (i := 2) rfl))))))) (by decide +kernel), inLW (List.mem_of_getElem? (i := 0) (by decide +kernel)) (by decide +kernel), ⟨by decide, by decide, by decide +kernel⟩, by decide⟩
set_option maxHeartbeats 4000000 in
set_option maxRecDepth 100000 in
theorem ct_L_years (N : Nat) (d : Nat) (hd : 10 ≤ d) {S : gS} {J : gJ} (hS : Sh S) {n9 : Nat} (hn9 : n9 = S.2.2) {a1 : Int32} {a2 : Int32} {a3 : Int32} {I : gI} {r : (Int32 ⊕ String) × gI × gJ} (h : mX10_years N n9 a1 a2 a3 I J = some r) (hE : ∀ E, r.1 = .inr E → E = xnN ∨ E = xnA) : CtW yL_years cL_years 6 (some .int) [(0, 12, 15, 18), (0, 12, 19, 13)] d 2 10 [.ref 0, .int a1, .int a2, .int a3, .ref 337] S I J (qE (.inl (some (.int (kL2 r.1)))) (oS r.1 (updR (updR (newS S (14, 0)) n9 0 (some 2)) n9 1 (some 42)) S) r.2.1 (jL r.1 r.2.2)) := by
  obtain ⟨rv, rI, rJ⟩ := r
  refine CtW.of (by decide +kernel) (Nat.le_of_ble_eq_true rfl) ⟨Or.inl (sn0 hS), trivial, trivial, trivial, Or.inl (sn337 hS), trivial⟩ ?_
  show Wp RL cL_years 6 (some .int) (hhE [(0, 12, 15, 18), (0, 12, 19, 13)]) hN d 2 10 0 [(0, .ref 0), (1, .int a1), (2, .int a2), (3, .int a3), (4, .ref 337)] [] S I J _
  cases rv with
  | inl x =>
    refine wp_aload dL_years_0 rfl ?_
    refine wp_iconst (v := 0) dL_years_2 (by decide) ?_
    refine wp_aload_n dL_years_3 rfl rfl ?_
    refine wp_iload_n dL_years_4 rfl rfl ?_
    refine wp_iload_n dL_years_5 rfl rfl ?_
    refine wp_iload_n dL_years_6 rfl rfl ?_
    refine wp_callVi (ci := 10) (As := [.int a1, .int a2, .int a3]) dL_years_7 lbX10_years mlL_96 imX10_years seX10_years vc10 (ct_X10_years N 9 (Nat.le_refl _) hS hn9 h) rfl rfl (Nat.le_trans (by decide) hd) (sk0 hS) (sn0 hS) (Nat.le_of_ble_eq_true rfl) (fun _ => ?_)
    refine wp_i2l dL_years_10 ?_
    refine wp_last (n := 1) dL_years_11 (sk337 (Sh_put2 (by rw [hn9]; exact hS.2.2) (Sh_nw9 hS))) (sn337 (Sh_put2 (by rw [hn9]; exact hS.2.2) (Sh_nw9 hS))) (inb_in (by decide)) ?_
    refine wp_goto (tgt := 23) dL_years_12 (by decide) ?_
    refine wp_iconst (v := 0) dL_years_23 (by decide) ?_
    exact wp_iret dL_years_24 rfl ⟨rfl, rfl, rfl, rfl⟩
  | inr E =>
    rcases hE E rfl with rfl | rfl
    · refine wp_aload dL_years_0 rfl ?_
      refine wp_iconst (v := 0) dL_years_2 (by decide) ?_
      refine wp_aload_n dL_years_3 rfl rfl ?_
      refine wp_iload_n dL_years_4 rfl rfl ?_
      refine wp_iload_n dL_years_5 rfl rfl ?_
      refine wp_iload_n dL_years_6 rfl rfl ?_
      refine wp_tryVx (i := 5) (hp2 := 17) (ci := 10) (As := [.int a1, .int a2, .int a3]) dL_years_7 lbX10_years mlL_96 imX10_years seX10_years vc10 (ct_X10_years N 9 (Nat.le_refl _) hS hn9 h) rfl rfl (Nat.le_trans (by decide) hd) (sk0 hS) (sn0 hS) (Nat.le_of_ble_eq_true rfl) [] ⟨0, 12, 15, 18⟩ [⟨0, 12, 19, 13⟩] rfl (fun z hz => nomatch hz) (by decide) (by decide) clL_18 cas_xnN (Or.inr ⟨dL_years_15, rfl⟩) (by decide) ?_
      refine wp_iconst (v := 1) dL_years_17 (by decide) ?_
      exact wp_iret dL_years_18 rfl ⟨rfl, rfl, rfl, rfl⟩
    · refine wp_aload dL_years_0 rfl ?_
      refine wp_iconst (v := 0) dL_years_2 (by decide) ?_
      refine wp_aload_n dL_years_3 rfl rfl ?_
      refine wp_iload_n dL_years_4 rfl rfl ?_
      refine wp_iload_n dL_years_5 rfl rfl ?_
      refine wp_iload_n dL_years_6 rfl rfl ?_
      refine wp_tryVx (i := 5) (hp2 := 21) (ci := 10) (As := [.int a1, .int a2, .int a3]) dL_years_7 lbX10_years mlL_96 imX10_years seX10_years vc10 (ct_X10_years N 9 (Nat.le_refl _) hS hn9 h) rfl rfl (Nat.le_trans (by decide) hd) (sk0 hS) (sn0 hS) (Nat.le_of_ble_eq_true rfl) [⟨0, 12, 15, 18⟩] ⟨0, 12, 19, 13⟩ [] rfl (fun z hz => by rw [List.mem_singleton.mp hz]; exact ⟨(by decide), clL_18, rfl⟩) (by decide) (by decide) clL_13 cas_xnA (Or.inr ⟨dL_years_19, rfl⟩) (by decide) ?_
      refine wp_iconst (v := 2) dL_years_21 (by decide) ?_
      exact wp_iret dL_years_22 rfl ⟨rfl, rfl, rfl, rfl⟩
