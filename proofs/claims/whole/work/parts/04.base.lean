/-! THE ABSTRACT HEAP: cells by small numbers; kinds and references (gS), whole numbers (gI), longs (gJ) -/
def LW : List Cond := lw_tbl.filter goodWord
def isNest : Cond → Bool
  | .fieldLinkNest .. => true
  | .methodLinkNest .. => true
  | .castable .. => true
  | .declares .. => true
  | _ => false
def NW : List Cond := tables_1.filter isNest
theorem inLW {w : Cond} (h : w ∈ tables_1) (hg : goodWord w = true) : w ∈ LW := List.mem_filter.mpr ⟨List.mem_append_right _ h, hg⟩
theorem inLWs {w : Cond} (h : w ∈ k2_sels lw_privs) (hg : goodWord w = true) : w ∈ LW := List.mem_filter.mpr ⟨List.mem_append_left _ h, hg⟩
theorem inNW {w : Cond} (h : w ∈ tables_1) (hg : isNest w = true) : w ∈ NW := List.mem_filter.mpr ⟨h, hg⟩
def wsY (y : MethodName) (cc : ByteArray) (nL : Nat) (ret : Option FieldType) : List Cond := .code y cc nL ret :: LW
theorem LW_good : ∀ w ∈ LW, (w.onTables && w.keeps) = true ∨ ∃ ty, w = .arrayClass ty := fun _ h => good_of_word (List.mem_filter.mp h).2
theorem good_wsY {y : MethodName} {cc : ByteArray} {nL : Nat} {ret : Option FieldType} (h : Cond.code y cc nL ret ∈ LW) : GoodIn LW (wsY y cc nL ret) := by
  intro w hw
  rcases List.mem_cons.mp hw with rfl | hw
  · exact ⟨h, LW_good _ h⟩
  · exact ⟨hw, LW_good _ hw⟩
abbrev gS : Type := (Nat → Nat × Nat) × (Nat → Nat → Option Nat) × Nat
abbrev gI : Type := Nat → Nat → Int32
abbrev gJ : Type := Nat → Nat → Int64
abbrev gO : Type := Option Value ⊕ String
/-- numbers from here on stand for cells outside the abstract heap -/
def gSB : Nat := 1000000000
def tv (al : Nat → Nat) : Value → Value
  | .ref k => .ref (al k)
  | v => v
theorem tv_cat (al : Nat → Nat) (v : Value) : (tv al v).category = v.category := by cases v <;> rfl
def kTy : Nat → Nat → FieldType
  | 0 => tyX0
  | 1 => tyX1
  | 2 => tyX2
  | 3 => tyX3
  | 4 => tyX4
  | 5 => tyX5
  | 6 => tyX6
  | 7 => tyX7
  | 8 => tyX8
  | 9 => tyX9
  | 10 => tyX10
  | _ => tyX11
def kN : Nat → Nat
  | 0 => 3
  | 1 => 6
  | 2 => 3
  | 3 => 9
  | 4 => 15
  | 5 => 8
  | 6 => 7
  | 7 => 8
  | 8 => 3
  | 9 => 4
  | 10 => 20
  | _ => 54
def tk : FieldType → Nat
  | .int => 0
  | .boolean => 0
  | .byte => 0
  | .long => 2
  | _ => 1
/-- the value of a field of the cell k, of class ci -/
def gF (al : Nat → Nat) (S : gS) (I : gI) (J : gJ) (k ci j : Nat) : Value := match tk (kTy ci j) with
  | 0 => .int (I k j)
  | 2 => .long (J k j)
  | _ => va_rf ((S.2.1 k j).map al)
def gE (cy : Nat → ClassId) (al : Nat → Nat) (S : gS) (I : gI) (J : gJ) (k : Nat) : va_E := match S.1 k with
  | (0, n) => .inl (cy 0, n, .inl (I k))
  | (1, n) => .inl (cy 1, n, .inl (I k))
  | (2, n) => .inl (cy 2, n, .inl (I k))
  | (3, n) => .inl (cy 3, n, .inr (.inl (J k)))
  | (4, n) => .inl (cy 4, n, .inr (.inr (.inr (.inr (fun j => (S.2.1 k j).map al)))))
  | (c + 5, _) => .inr (c, (List.range (kN c)).map (gF al S I J k c))
def gW (cy : Nat → ClassId) (al : Nat → Nat) (S : gS) (I : gI) (J : gJ) : va_W := (List.range S.2.2).map fun k => (al k, gE cy al S I J k)
def gT (cy : Nat → ClassId) : List (ClassId × FieldType) := [(cy 0, .int), (cy 1, .byte), (cy 2, .boolean), (cy 3, .long), (cy 4, .object RX8)]
theorem gW_at {cy : Nat → ClassId} {al : Nat → Nat} {S : gS} {I : gI} {J : gJ} {k : Nat} (h : k < S.2.2) : (gW cy al S I J)[k]? = some (al k, gE cy al S I J k) := by
  unfold gW
  rw [List.getElem?_map, List.getElem?_range h]
  rfl
theorem gW_len {cy : Nat → ClassId} {al : Nat → Nat} {S : gS} {I : gI} {J : gJ} : (gW cy al S I J).length = S.2.2 := by simp [gW]
def upd2 (I : gI) (k j : Nat) (v : Int32) : gI := fun a b => if a = k ∧ b = j then v else I a b
def updJ (J : gJ) (k j : Nat) (v : Int64) : gJ := fun a b => if a = k ∧ b = j then v else J a b
def updR (S : gS) (k j : Nat) (v : Option Nat) : gS := (S.1, fun a b => if a = k ∧ b = j then v else S.2.1 a b, S.2.2)
/-- a new cell, of a kind; its references are none -/
def newS (S : gS) (kd : Nat × Nat) : gS := (fun a => if a = S.2.2 then kd else S.1 a, fun a b => if a = S.2.2 then none else S.2.1 a b, S.2.2 + 1)
def newI (I : gI) (n : Nat) : gI := fun a b => if a = n then 0 else I a b
def newJ (J : gJ) (n : Nat) : gJ := fun a b => if a = n then 0 else J a b
/-- one cell is another, all else as it was -/
theorem gW_set {cy : Nat → ClassId} {al : Nat → Nat} {S S' : gS} {I I' : gI} {J J' : gJ} {k : Nat} (hk : k < S.2.2) (hn : S'.2.2 = S.2.2) (ho : ∀ a, a ≠ k → gE cy al S' I' J' a = gE cy al S I J a) :
    gW cy al S' I' J' = (gW cy al S I J).set k (al k, gE cy al S' I' J' k) := by
  apply List.ext_getElem?
  intro i
  by_cases hi : i < S.2.2
  · rw [gW_at (S := S') (by rw [hn]; exact hi)]
    by_cases hik : i = k
    · subst hik
      rw [List.getElem?_set_self (by rw [gW_len]; exact hi)]
    · rw [List.getElem?_set_ne (Ne.symm hik), gW_at hi, ho i hik]
  · rw [List.getElem?_eq_none (by rw [gW_len, hn]; omega), List.getElem?_eq_none (by rw [List.length_set, gW_len]; omega)]
theorem gW_push {cy : Nat → ClassId} {al al' : Nat → Nat} {S S' : gS} {I I' : gI} {J J' : gJ} (hn : S'.2.2 = S.2.2 + 1) (ho : ∀ a, a < S.2.2 → al' a = al a ∧ gE cy al' S' I' J' a = gE cy al S I J a) :
    gW cy al' S' I' J' = gW cy al S I J ++ [(al' S.2.2, gE cy al' S' I' J' S.2.2)] := by
  apply List.ext_getElem?
  intro i
  by_cases hi : i < S.2.2
  · rw [gW_at (S := S') (by rw [hn]; omega), List.getElem?_append_left (by rw [gW_len]; exact hi), gW_at hi, (ho i hi).1, (ho i hi).2]
  · by_cases he : i = S.2.2
    · subst he
      rw [gW_at (S := S') (by rw [hn]; omega), List.getElem?_append_right (by rw [gW_len]; omega), gW_len, Nat.sub_self]
      rfl
    · rw [List.getElem?_eq_none (by rw [gW_len, hn]; omega), List.getElem?_eq_none (by rw [List.length_append, gW_len]; simp; omega)]
/-- String constants: the class, the entry, the text; the first three are read -/
def gStr : List (String × Nat × String) := [("TunnelPlan$Reader", 42, "nodes"), ("TunnelPlan$Reader", 59, "link"), ("TunnelPlan$Reader", 68, "tunnel"), ("TunnelPlan", 103, "the tape has not so many bytes"), ("TunnelPlan", 179, "no such count"), ("TunnelPlan", 199, "no such link"), ("TunnelPlan", 201, "no such tunnel"), ("TunnelPlan", 203, "no such node"), ("TunnelPlan", 205, "both nodes are one"), ("TunnelPlan", 211, "no such priority"), ("TunnelPlan", 213, "no such place"), ("TunnelPlan", 237, "a link has no such thing"), ("TunnelPlan", 279, "a tunnel has no such thing"), ("TunnelPlan", 287, "the way has no such link"), ("TunnelPlan", 292, "pushes has no such thing"), ("TunnelPlan", 370, "other has no such thing"), ("TunnelPlan", 399, "tenths are 0 to 10"), ("TunnelPlan", 404, "years has no such thing"), ("TunnelPlan", 406, "years are 0 to 60")]
def gX (al : Nat → Nat) (A : Nat → Prop) (U : State) (H : Heap) : Prop :=
  (∀ i q, gStr[i]? = some q → vk_R q.1 q.2.1 q.2.2 (al (gSB + i)) U) ∧
  vk_S 3 [5, 4, 6] [[110, 111, 100, 101, 115], [108, 105, 110, 107], [116, 117, 110, 110, 101, 108]] (fun i => al (gSB + i)) (fun i => al (gSB + 100 + i)) A U H ∧
  vx_Zq Bundle.tN "UNASSIGNED_STACK" Bundle.steD A U H ∧ vx_Zq Bundle.tN "SUPPRESSED_SENTINEL" Bundle.listD A U H ∧ va_AO RX8 U ∧ va_Z "java/lang/String" "COMPACT_STRINGS" "Z" (.int 1) A U H ∧ (va_Z "jdk/internal/util/Preconditions" "SIOOBE_FORMATTER" "Ljava/util/function/BiFunction;" .null A U H ∨ va_Z "jdk/internal/util/Preconditions" "SIOOBE_FORMATTER" "Ljava/util/function/BiFunction;" (.ref (al (gSB + 200))) A U H)
/-- the same cells, and the same ones outside -/
def gAg (n : Nat) (al al' : Nat → Nat) : Prop := ∀ k, (k < n ∨ gSB ≤ k) → al' k = al k
theorem gAg.rf {n : Nat} {al : Nat → Nat} : gAg n al al := fun _ _ => rfl
theorem gAg.trans {n n' : Nat} {a b c : Nat → Nat} (h : gAg n a b) (h2 : gAg n' b c) (hn : n ≤ n') : gAg n a c := fun k hk => by
  rw [h2 k (by omega), h k hk]
/-- no reference leads out -/
def wfS (S : gS) : Prop := ∀ k j r, k < S.2.2 → S.2.1 k j = some r → r < S.2.2
def gB (D : va_G) (cy : Nat → ClassId) (A : Nat → Prop) (al : Nat → Nat) (S : gS) (I : gI) (J : gJ) (H : Heap) : Prop :=
  va_P D vwCl (gW cy al S I J) H ∧ va_D A (gW cy al S I J)
def gQ (D : va_G) (cy : Nat → ClassId) (A : Nat → Prop) (al0 : Nat → Nat) (n0 n1 : Nat) (Q : gO → gS → gI → gJ → Prop) : Array Value → State → Outcome → State → Prop := fun _ st oc t =>
  (∃ (v : Option Value) (S : gS) (I : gI) (J : gJ) (al : Nat → Nat), oc = .returned (v.map (tv al)) ∧ Q (.inl v) S I J ∧ gB D cy A al S I J t.heap ∧ gAg n0 al0 al ∧ n0 ≤ S.2.2 ∧ wfS S ∧ S.2.2 ≤ n1) ∧ va_F A st t
def gXc (D : va_G) (cy : Nat → ClassId) (A : Nat → Prop) (al0 : Nat → Nat) (n0 n1 : Nat) (Q : gO → gS → gI → gJ → Prop) : String → State → State → Prop := fun E st t =>
  (∃ (S : gS) (I : gI) (J : gJ) (al : Nat → Nat), Q (.inr E) S I J ∧ gB D cy A al S I J t.heap ∧ gAg n0 al0 al ∧ n0 ≤ S.2.2 ∧ wfS S ∧ S.2.2 ≤ n1) ∧ va_F A st t
/-- what stays the same in a method: the machine, the words, the room; d frames may nest -/
def Cs (own : String) (cc : ByteArray) (nL : Nat) (ret : Option FieldType) (hh : List ExceptionTableEntry) (d : Nat) (p : Program) (l : Launch) (R : Room) (s : State) (m : MethodId) (args : Array Value) (meth : Method) (c : Code) (A : Nat → Prop) (cy : Nat → ClassId) (D : va_G) (mc ms : Nat) : Prop :=
  (p.tables.exec = Jvm.exec ∧ c.code = cc ∧ c.maxLocals = nL ∧ meth.sig.returnType = ret ∧ meth.locks = false ∧ c.exceptionTable.toList = hh) ∧
  (s.vm.findClass own = some m.cls ∧ (∀ w ∈ LW, w.before args s = true) ∧ (∀ w ∈ NW, va_Nw w s) ∧ l.stackTraces = false) ∧
  (d ≤ R.frames ∧ d * 64 ≤ R.locals ∧ mc ≤ R.cells ∧ ms ≤ R.slots) ∧ va_K D vwCl (gT cy) s ∧ (∀ q, s.heap.size ≤ q → A q)
/-- what moves -/
def Cd (rc rs : Nat) (S : gS) (I : gI) (J : gJ) (s : State) (H : Heap) (locs : List Loc) (cells slots : Nat) (A : Nat → Prop) (al : Nat → Nat) (cy : Nat → ClassId) (D : va_G) (mc ms : Nat) (al0 : Nat → Nat) (n0 : Nat) : Prop :=
  (cells + rc ≤ mc ∧ slots + rs ≤ ms ∧ S.2.2 + rc ≤ n0 + mc ∧ n0 + mc ≤ gSB) ∧ gB D cy A al S I J H ∧ va_S A s.heap H locs ∧ gX al A s s.heap ∧ gAg n0 al0 al ∧ n0 ≤ S.2.2 ∧ wfS S
def vokN (n r : Nat) : Prop := r < n ∨ gSB ≤ r
/-- a value that names no cell that isn't there -/
def vok (n : Nat) : Value → Prop
  | .ref r => vokN n r
  | _ => True
def vokL (n : Nat) : List Value → Prop
  | [] => True
  | v :: t => vok n v ∧ vokL n t
def vokP (n : Nat) : List (Nat × Value) → Prop
  | [] => True
  | q :: t => vok n q.2 ∧ vokP n t
theorem vokL_mem {n : Nat} : ∀ {st : List Value}, vokL n st → ∀ v ∈ st, vok n v
  | a :: t, h, v, hm => by
    rcases List.mem_cons.mp hm with rfl | hm
    · exact h.1
    · exact vokL_mem h.2 v hm
theorem vokP_mem {n : Nat} : ∀ {ls : List (Nat × Value)}, vokP n ls → ∀ q ∈ ls, vok n q.2
  | a :: t, h, v, hm => by
    rcases List.mem_cons.mp hm with rfl | hm
    · exact h.1
    · exact vokP_mem h.2 v hm
theorem vokP_of {n : Nat} : ∀ {ls : List (Nat × Value)}, (∀ q ∈ ls, vok n q.2) → vokP n ls
  | [], _ => trivial
  | a :: t, h => ⟨h a List.mem_cons_self, vokP_of fun q hq => h q (List.mem_cons_of_mem _ hq)⟩
theorem vokL_of {n : Nat} : ∀ {st : List Value}, (∀ v ∈ st, vok n v) → vokL n st
  | [], _ => trivial
  | a :: t, h => ⟨h a List.mem_cons_self, vokL_of fun q hq => h q (List.mem_cons_of_mem _ hq)⟩
theorem vok_mono {n n' : Nat} (h : n ≤ n') {v : Value} (hv : vok n v) : vok n' v := by
  cases v with
  | ref r =>
    have h' : vokN n r := hv
    show vokN n' r
    unfold vokN at h' ⊢
    omega
  | _ => trivial
theorem vokL_mono {n n' : Nat} (h : n ≤ n') {st : List Value} (hv : vokL n st) : vokL n' st := vokL_of fun v hm => vok_mono h (vokL_mem hv v hm)
theorem vokP_mono {n n' : Nat} (h : n ≤ n') {st : List (Nat × Value)} (hv : vokP n st) : vokP n' st := vokP_of fun v hm => vok_mono h (vokP_mem hv v hm)
theorem vokL_app {n : Nat} {a b : List Value} (h : vokL n (a ++ b)) : vokL n b := vokL_of fun v hm => vokL_mem h v (List.mem_append_right _ hm)
/-- what a method may know of its start: nothing, that it is a constructor, or a law's own -/
abbrev gH : Type := State → (Nat → Nat) → (Nat → Prop) → Method → Prop
def hF : gH := fun _ _ _ _ => True
def hT : gH := fun _ _ _ m => m.name = "<init>"
def Wp (own : String) (cc : ByteArray) (nL : Nat) (ret : Option FieldType) (hh : List ExceptionTableEntry) (isI : gH) (d rc rs : Nat) (pc : Nat) (ls : List (Nat × Value)) (st : List Value) (S : gS) (I : gI) (J : gJ) (Q : gO → gS → gI → gJ → Prop) : Prop :=
  ∀ (p : Program) (l : Launch) (e : Env) (R : Room) (s : State) (m : MethodId) (args : Array Value) (below : List Frame) (meth : Method) (c : Code) (H : Heap) (locs : List Loc) (cells slots : Nat) (A : Nat → Prop) (al : Nat → Nat) (cy : Nat → ClassId) (D : va_G) (mc ms : Nat) (al0 : Nat → Nat) (n0 : Nat),
    Cs own cc nL ret hh d p l R s m args meth c A cy D mc ms → isI s al0 A meth → Cd rc rs S I J s H locs cells slots A al cy D mc ms al0 n0 →
    vokP S.2.2 ls ∧ vokL S.2.2 st → ∀ lsr : Array Slot, lv_has lsr nL (ls.map fun q => (q.1, tv al q.2)) →
    W p l e R s m args below meth c H locs cells slots (vx_MQ below (gQ D cy A al0 n0 (n0 + mc) Q) (gXc D cy A al0 n0 (n0 + mc) Q) args s mc ms A) (F0 m pc lsr (st.map (tv al)))
def lk : List (Nat × Value) → Nat → Option Value
  | [], _ => none
  | (j, v) :: t, i => match Nat.beq j i with
    | true => some v
    | false => lk t i
theorem lk_mem : ∀ {ls : List (Nat × Value)} {i : Nat} {v : Value}, lk ls i = some v → (i, v) ∈ ls
  | (j, w) :: t, i, v, h => by
    unfold lk at h
    split at h
    · next hb =>
      cases h
      rw [Nat.eq_of_beq_eq_true hb]
      exact List.mem_cons_self
    · exact List.mem_cons_of_mem _ (lk_mem h)
theorem lk_has {lsr : Array Slot} {nL : Nat} {ls : List (Nat × Value)} {al : Nat → Nat} (h : lv_has lsr nL (ls.map fun q => (q.1, tv al q.2))) {i : Nat} {v : Value} (hv : lk ls i = some v) : lsr[i]? = some (.val (tv al v)) :=
  h.2.2 (i, tv al v) (List.mem_map.mpr ⟨(i, v), lk_mem hv, rfl⟩)
def ls1 (ls : List (Nat × Value)) (i : Nat) (v : Value) : List (Nat × Value) := (i, v) :: ls.filter (fun q => !(q.1 == i) && !(q.1 + 1 == i && q.2.category == 2))
def ls2 (ls : List (Nat × Value)) (i : Nat) (v : Value) : List (Nat × Value) := (i, v) :: ls.filter (fun q => !(q.1 == i) && (!(q.1 == i + 1) && !(q.1 + 1 == i && q.2.category == 2)))
theorem vokP_ls1 {n : Nat} {ls : List (Nat × Value)} (h : vokP n ls) {i : Nat} {v : Value} (hv : vok n v) : vokP n (ls1 ls i v) := ⟨hv, vokP_of fun q hq => vokP_mem h q (List.mem_filter.mp hq).1⟩
theorem vokP_ls2 {n : Nat} {ls : List (Nat × Value)} (h : vokP n ls) {i : Nat} {v : Value} (hv : vok n v) : vokP n (ls2 ls i v) := ⟨hv, vokP_of fun q hq => vokP_mem h q (List.mem_filter.mp hq).1⟩
theorem vok_lk {n : Nat} {ls : List (Nat × Value)} (h : vokP n ls) {i : Nat} {v : Value} (hv : lk ls i = some v) : vok n v := vokP_mem h (i, v) (lk_mem hv)
theorem ls1_map (al : Nat → Nat) (ls : List (Nat × Value)) (i : Nat) (v : Value) : (i, tv al v) :: (ls.map fun q => (q.1, tv al q.2)).filter (fun q => !(q.1 == i) && !(q.1 + 1 == i && q.2.category == 2)) = (ls1 ls i v).map fun q => (q.1, tv al q.2) := by
  unfold ls1
  rw [List.map_cons, List.filter_map]
  congr 2
  apply List.filter_congr
  intro q _
  simp [tv_cat]
theorem ls2_map (al : Nat → Nat) (ls : List (Nat × Value)) (i : Nat) (v : Value) : (i, tv al v) :: (ls.map fun q => (q.1, tv al q.2)).filter (fun q => !(q.1 == i) && (!(q.1 == i + 1) && !(q.1 + 1 == i && q.2.category == 2))) = (ls2 ls i v).map fun q => (q.1, tv al q.2) := by
  unfold ls2
  rw [List.map_cons, List.filter_map]
  congr 2
  apply List.filter_congr
  intro q _
  simp [tv_cat]
theorem cat_sum (al : Nat → Nat) (st : List Value) : ((st.map (tv al)).map fun v => v.category).sum = (st.map fun v => v.category).sum := by
  rw [List.map_map]
  congr 1
  apply List.map_congr_left
  intro v _
  exact tv_cat al v
