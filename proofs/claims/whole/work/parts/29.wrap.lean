/-! the law's wrappers: a call in a try; contracts of methods with a table -/
def hN : gH := fun s _ _ _ => va_Nc xnA xnN s
def hhE (hs : List (Nat × Nat × Nat × Nat)) : List ExceptionTableEntry := hs.map fun q => ⟨q.1, q.2.1, q.2.2.1, q.2.2.2⟩
theorem hhE_of {t : List ExceptionTableEntry} {hs : List (Nat × Nat × Nat × Nat)} (h : t.map (fun h => (h.startPc, h.endPc, h.handlerPc, h.catchType)) = hs) : t = hhE hs := by
  subst h
  unfold hhE
  rw [List.map_map]
  exact ((List.map_congr_left fun _ _ => rfl).trans (List.map_id _)).symm
def wsW (y : MethodName) (cc : ByteArray) (nL : Nat) (ret : Option FieldType) (hs : List (Nat × Nat × Nat × Nat)) : List Cond := .codeWith y cc nL ret hs :: LW
def CtW (y : MethodName) (cc : ByteArray) (nL : Nat) (ret : Option FieldType) (hs : List (Nat × Nat × Nat × Nat)) (d mc ms : Nat) (As : List Value) (S : gS) (I : gI) (J : gJ) (Q : gO → gS → gI → gJ → Prop) : Prop :=
  ∀ (l : Launch) (al : Nat → Nat) (cy : Nat → ClassId) (D : va_G) (sz : Nat), l.stackTraces = false → wfS S → S.2.2 + mc ≤ gSB →
    vx_Met l y (wsW y cc nL ret hs) (rmD d mc ms) (va_Pc (As.map (tv al)) (fun U => gP D cy al S I J sz U ∧ va_Nc xnA xnN U)) (gQ D cy (va_A (gW cy al S I J) sz) al S.2.2 (S.2.2 + mc) Q) (gXc D cy (va_A (gW cy al S I J) sz) al S.2.2 (S.2.2 + mc) Q) mc ms (va_A (gW cy al S I J) sz)
section Wrap
variable {own : String} {cc : ByteArray} {nL : Nat} {ret : Option FieldType} {hh : List ExceptionTableEntry} {isI : gH} {d rc rs pc : Nat} {ls : List (Nat × Value)} {S : gS} {I : gI} {J : gJ} {Q : gO → gS → gI → gJ → Prop}
theorem CtW.of {y : MethodName} {hs : List (Nat × Nat × Nat × Nat)} {mc ms : Nat} {As : List Value} (hy : plainName y.cls = true) (hlen : (lg_sl As).length ≤ nL) (hok : vokL S.2.2 As) (k : Wp y.cls cc nL ret (hhE hs) hN d mc ms 0 (gArgs 0 As) [] S I J Q) : CtW y cc nL ret hs d mc ms As S I J Q := by
  intro l al cy D sz htr hwf hsb
  refine vx_ofWH (cc := cc) (maxL := nL) (ret := ret) (hh := hs) hy rfl ?_
  intro p e s m args below meth c s₁ B hml hv
  obtain ⟨rfl, ⟨hsz, hB, hK, hX, hN9⟩, hnc⟩ := hv
  have hts := atoms_spec (ws := wsW y cc nL ret hs) B.pre
  have hown : s.vm.findClass y.cls = some m.cls := findClass_of_methodNamed B.named
  have htab : c.exceptionTable.toList = hhE hs := by
    obtain ⟨m9, meth9, c9, hn9, h1, h2, -, -, h4, -, -, -⟩ := Cond.codeWith_spec (hts _ List.mem_cons_self)
    cases Option.some.inj (hn9.symm.trans B.named)
    cases Option.some.inj (h1.symm.trans B.method)
    cases Option.some.inj (h2.symm.trans (Stand.of_body B).code)
    exact hhE_of h4
  subst hsz
  rw [lg_entry_eq]
  have hl := lv_entry (As.map (tv al)) (n := nL) (by rw [gSl_len]; exact hlen)
  rw [gArgs_map] at hl
  exact k p l e _ s m _ below meth c s.heap [] 0 0 (va_A (gW cy al S I J) s.heap.size) al cy D mc ms al S.2.2 ⟨⟨B.exec, B.bytes, hml, B.returns, B.notSynchronized, htab⟩, ⟨hown, fun w h => hts w (List.mem_cons_of_mem _ h), hN9, htr⟩, ⟨Nat.le_refl _, Nat.le_refl _, Nat.le_refl _, Nat.le_refl _⟩, hK, fun q h => Or.inr h⟩ hnc ⟨⟨by omega, by omega, Nat.le_refl _, hsb⟩, ⟨hB.1, hB.2.self⟩, va_S.rf, hX, gAg.rf, Nat.le_refl _, hwf⟩ ⟨vokP_of (gArgs_ok hok 0), trivial⟩ _ hl
/-- thrown in a call, and caught: the row x takes it; the handler stores it, and goes on with nothing known of the locals -/
theorem wp_tryVx {y : MethodName} {cc' : ByteArray} {nL' : Nat} {ret' : Option FieldType} {T0 : u_T} {n ci N0 idx b n9 d' mc' ms' i hp2 : Nat} {As stk rest : List Value} {S1 : gS} {I1 : gI} {J1 : gJ} {E : String}
    (hd : decode cc pc = .ok (.invokevirtual idx, 3)) (hB : LkB y cc' nL' ret' n) (hlink : Cond.methodLink own idx y ∈ LW) (hinst : Cond.instanceMethod y ∈ LW) (hsel : Cond.selects y.cls y y ∈ LW) (hci : vwCl[ci]? = some (y.cls, T0, N0))
    (hCt : Ct y (wsY y cc' nL' ret') d' mc' ms' (.ref b :: As) S I J (qE (.inr E) S1 I1 J1)) (hstk : stk = As.reverse ++ .ref b :: rest) (hlen : As.length = n) (hdd : d' + 1 ≤ d) (hk : S.1 b = (ci + 5, n9)) (hn : b < S.2.2) (hroom : (rest.map fun v => v.category).sum ≤ 8)
    (pre : List ExceptionTableEntry) (x : ExceptionTableEntry) (suf : List ExceptionTableEntry) (hsp : hh = pre ++ x :: suf) (hps : ∀ z ∈ pre, z.catchType ≠ 0 ∧ Cond.classLink own z.catchType xnN ∈ LW ∧ E = xnA) (hcv9 : covers x pc = true) (h09 : x.catchType ≠ 0) (hlk : Cond.classLink own x.catchType E ∈ LW) (hcs : Cond.castable E E ∈ NW)
    (hst : (∃ k9 : Fin 4, decode cc x.handlerPc = .ok (.astore_n k9, 1) ∧ (k9 : Nat) = i ∧ hp2 = x.handlerPc + 1) ∨ (decode cc x.handlerPc = .ok (.astore i, 2) ∧ hp2 = x.handlerPc + 2)) (hi9 : i < nL)
    (kh : Wp own cc nL ret hh hN d rc rs hp2 [] [] S1 I1 J1 Q) : Wp own cc nL ret hh hN d (rc + mc') (rs + ms') pc ls stk S I J Q := fun p l e R s m args below meth c H locs cells slots A al cy D mc ms al0 n0 hC hi hD hv lsr hl => by
  have hw := hC.2.1.2.1
  have hr2 := hD.1
  have he := gW_at (cy := cy) (al := al) (I := I) (J := J) hn
  rw [gE_obj hk] at he
  have hM := hCt l al cy D H.size hC.2.1.2.2.2 hD.2.2.2.2.2.2 (by omega)
  have hr : vx_Run p l e R s m args below meth c H locs cells slots mc' ms' (F0 m pc lsr (stk.map (tv al))) (rest.map (tv al)) (gQ D cy (va_A (gW cy al S I J) H.size) al S.2.2 (S.2.2 + mc') (qE (.inr E) S1 I1 J1) (Value.ref (al b) :: As.map (tv al)).toArray) (gXc D cy (va_A (gW cy al S I J) H.size) al S.2.2 (S.2.2 + mc') (qE (.inr E) S1 I1 J1)) (va_A (gW cy al S I J) H.size) := by
    refine vx_runV (Ts := LW) (nL := nL) (As := As.map (tv al)) (b := al b) (C := y.cls) (n := n) ⟨hC.1.1, hC.1.2.1, hC.1.2.2.1, hC.2.1.1, hw⟩ hM ⟨callB_of n hw (good_wsY hB.1) rfl rfl rfl (hw _ hB.2.1) (hw _ hlink) hB.2.2.1 (rmD_ok hC hdd hB.2.2.2), hw _ hinst, hw _ hsel⟩ ⟨gP_blind, va_recv hC.2.2.2.1 hD.2.1.1 hci he, fun U hU hW => ⟨rfl, gP_at hC hD hU hW⟩⟩ rfl (by rw [List.length_map]; exact hlen) hl.1 ?_ ?_ hd ⟨by have := hC.2.2.1; omega, by have := hC.2.2.1; omega⟩
    · show List.map (tv al) stk = _
      rw [hstk, List.map_append, List.map_cons, List.map_reverse]
      rfl
    · show 2 * 0 + _ ≤ 8
      rw [cat_sum]
      omega
  intro T hT X
  rcases hr T hT X with ⟨v, st₀, t, T', L, h0, X', hL, e1, e2, ⟨⟨v9, S2, I2, J2, al1, hv, hq, hB2, hg, hn1, hwf, hn2⟩, hF⟩, stp⟩ | ⟨q, st₀, t, T', L, E2, ce, h0, X', hL, e1, e2, ⟨⟨S2, I2, J2, al1, hq, hB2, hg, hn1, hwf, hn2⟩, hF⟩, hce, hcv, hcl, stp⟩
  · exact absurd hq.1 (by intro h; cases h)
  · obtain ⟨k1, k2, k3⟩ := vx_keep (A1 := va_A (gW cy al S I J) H.size) h0 e1 hD.2.2.1 (fun q _ h => gFree hC hD q h) (gFree hC hD) hL hF
    obtain ⟨hE9, rfl, rfl, rfl⟩ := hq
    cases hE9
    have hD2 := Cd_back hC hD (by rw [e1]; exact hB2) hg hn1 hn2 hwf k3
    have KH : ∀ lsr' : Array Slot, ∀ L9, lv_has lsr' nL L9 → W p l e R s m args below meth c T'.heap (locs ++ L) (cells + mc') (slots + ms') (vx_MQ below (gQ D cy A al0 n0 (n0 + mc) Q) (gXc D cy A al0 n0 (n0 + mc) Q) args s mc ms A) (F0 m hp2 lsr' []) := fun lsr' L9 hl' =>
      kh p l e R s m args below meth c T'.heap (locs ++ L) (cells + mc') (slots + ms') A al1 cy D mc ms al0 n0 hC hi hD2 ⟨trivial, trivial⟩ lsr' ⟨hl'.1, hl'.2.1, fun q hq => nomatch hq⟩
    have K : vx_W p l e R s m args below meth c T'.heap (locs ++ L) (cells + mc') (slots + ms') (vx_MQ below (gQ D cy A al0 n0 (n0 + mc) Q) (gXc D cy A al0 n0 (n0 + mc) Q) args s mc ms A) (F0 m pc lsr (rest.map (tv al))) q := by
      refine cx_catch (E := E) (name := E) hC.2.1.1 pre x suf (by rw [hC.1.2.2.2.2.2, hsp]) (fun z hz => ?_) hcv9 h09 (hw _ hlk) (va_Nw.use rfl (hC.2.1.2.2.1 _ hcs)) (by rw [e1]; exact hce) hcv hcl ?_
      · obtain ⟨z1, z2, z3⟩ := hps z hz
        exact Or.inr ⟨z1, xnN, hw _ z2, by rw [z3]; exact hi⟩
      · rcases hst with ⟨k9, hd9, hj9, rfl⟩ | ⟨hd9, rfl⟩
        · exact lv_astore_n hC.1.1 hC.1.2.1 hd9 hj9 hl hi9 rfl (fun lsr' hl' => KH lsr' _ hl')
        · exact lv_astore hC.1.1 hC.1.2.1 hd9 hl hi9 rfl (fun lsr' hl' => KH lsr' _ hl')
    obtain ⟨t2, a1, b1⟩ := K T' rfl X'
    exact ⟨t2, stp.trans a1, b1⟩
def LkW (y : MethodName) (cc' : ByteArray) (nL' : Nat) (ret' : Option FieldType) (hs : List (Nat × Nat × Nat × Nat)) (n : Nat) : Prop :=
  Cond.codeWith y cc' nL' ret' hs ∈ LW ∧ Cond.initialized y.cls ∈ LW ∧ (y.cls ≠ "java/lang/invoke/MethodHandle" ∧ y.cls ≠ "java/lang/invoke/VarHandle" ∧ (parseMethodDescriptor y.desc).map (fun d => d.parameters.length) = some n) ∧ nL' ≤ 45
theorem gPN_blind {D : va_G} {cy : Nat → ClassId} {al : Nat → Nat} {sz : Nat} {av : List Value} : FrameBlind (va_Pc av (fun U => gP D cy al S I J sz U ∧ va_Nc xnA xnN U)) := by
  intro a U g mk q
  have h1 : va_Pc av (gP D cy al S I J sz) a (U.calling g mk a) := gP_blind a U g mk ⟨q.1, q.2.1⟩
  exact ⟨h1.1, h1.2, q.2.2.moved (Vm.Alike.refl U.vm)⟩
theorem wp_callSW {y : MethodName} {cc' : ByteArray} {nL' : Nat} {ret' : Option FieldType} {hs : List (Nat × Nat × Nat × Nat)} {n idx d' mc' ms' : Nat} {As stk rest : List Value} {S1 : gS} {I1 : gI} {J1 : gJ} {r : Int32}
    (hd : decode cc pc = .ok (.invokestatic idx, 3)) (hB : LkW y cc' nL' ret' hs n) (hlink : Cond.methodLink own idx y ∈ LW) (hstat : Cond.static y ∈ LW)
    (hCt : CtW y cc' nL' ret' hs d' mc' ms' As S I J (qE (.inl (some (.int r))) S1 I1 J1)) (hstk : stk = As.reverse ++ rest) (hlen : As.length = n) (hdd : d' + 1 ≤ d) (hroom : (rest.map fun v => v.category).sum ≤ 8)
    (hIs : ∀ (s0 : State) (al9 : Nat → Nat) (A9 : Nat → Prop) (m0 : Method), isI s0 al9 A9 m0 → va_Nc xnA xnN s0)
    (kk : S.2.2 ≤ S1.2.2 → Wp own cc nL ret hh isI d rc rs (pc + 3) ls (.int r :: rest) S1 I1 J1 Q) : Wp own cc nL ret hh isI d (rc + mc') (rs + ms') pc ls stk S I J Q := fun p l e R s m args below meth c H locs cells slots A al cy D mc ms al0 n0 hC hi hD hv lsr hl => by
  have hw := hC.2.1.2.1
  have hr2 := hD.1
  have hM := hCt l al cy D H.size hC.2.1.2.2.2 hD.2.2.2.2.2.2 (by omega)
  have hrm := rmD_ok (mc' := mc') (ms' := ms') hC hdd hB.2.2.2
  refine wp_of_vxRun (a9 := (As.map (tv al)).toArray) (Q' := qE (.inl (some (.int r))) S1 I1 J1) hC hi hD hl ⟨hv.1, vokL_app (a := As.reverse) (b := rest) (hstk ▸ hv.2)⟩ ?_ (fun E S' I' J' h => by cases h.1) (fun v S' I' J' h w hw => by rw [Sum.inl.inj h.1] at hw; simp at hw; try (subst hw; trivial)) (fun v S' I' J' h hn9 => by obtain ⟨h1, rfl, rfl, rfl⟩ := h; cases h1; exact kk hn9)
  refine vx_runSX (hh := hs) (bytes := cc') (maxL := nL') (ret := ret') (rm := rmD d' mc' ms') (Ts := LW) (nL := nL) (As := As.map (tv al)) (n := n) ⟨hC.1.1, hC.1.2.1, hC.1.2.2.1, hC.2.1.1, hw⟩ hM ⟨⟨rfl, rfl, hrm.1, hrm.2, ?_, List.mem_cons_self⟩, hw _ hB.1, hw _ hB.2.1, ⟨hB.2.2.1.1, hB.2.2.1.2.1⟩, ?_, hw _ hlink, hw _ hstat⟩ ⟨gPN_blind, fun U hU hW => ⟨rfl, gP_at hC hD hU hW, (hIs s al0 A meth hi).moved hW.alike⟩⟩ rfl (by rw [List.length_map]; exact hlen) hl.1 ?_ ?_ hd ⟨by have := hC.2.2.1; omega, by have := hC.2.2.1; omega⟩
  · intro w hw9 a' U hW
    rcases List.mem_cons.mp hw9 with rfl | hw9
    · exact word_at hW (LW_good _ hB.1) (hw _ hB.1)
    · exact word_at hW (LW_good _ hw9) (hw _ hw9)
  · intro sig hsig
    have := hB.2.2.1.2.2
    rw [hsig] at this
    exact (Option.some.inj this).symm
  · show List.map (tv al) stk = _
    rw [hstk, List.map_append, List.map_reverse]
  · show 2 * 0 + _ ≤ 8
    rw [cat_sum]
    omega
end Wrap
def kL1 : Int32 ⊕ String → Int32
  | .inl _ => 0
  | .inr _ => 1
def kL2 : Int32 ⊕ String → Int32
  | .inl _ => 0
  | .inr E => if E = xnN then 1 else 2
def jL (r : Int32 ⊕ String) (J : gJ) : gJ := match r with
  | .inl v => updJ J 337 0 v.toInt64
  | .inr _ => J
def jB (r : Int32 ⊕ String) (J : gJ) : gJ := match r with
  | .inl v => updJ J 337 0 (if v = 0 then 0 else 1)
  | .inr _ => J
