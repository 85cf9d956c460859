/-! rows of links: walks, ways that go through no node twice -/
section Path
variable {ν : Nt} {go : Nat → Bool}
def mt (ν : Nt) : List Nat → Nat
  | [] => 0
  | l :: p => ν.L l 2 + mt ν p
theorem mt_app : ∀ (p q : List Nat), mt ν (p ++ q) = mt ν p + mt ν q
  | [], q => by simp [mt]
  | l :: p, q => by rw [List.cons_append, mt, mt, mt_app p q]; omega
theorem chn_app {z : Nat} : ∀ {p q : List Nat} {a : Nat}, chn ν a (p ++ q) z ↔ ∃ m, chn ν a p m ∧ chn ν m q z
  | [], q, a => ⟨fun h => ⟨a, rfl, h⟩, fun ⟨m, h1, h2⟩ => by cases h1; exact h2⟩
  | l :: p, q, a => by
    rw [List.cons_append]
    constructor
    · intro h
      obtain ⟨m, h1, h2⟩ := chn_app.mp h.2.2
      exact ⟨m, ⟨h.1, h.2.1, h1⟩, h2⟩
    · intro ⟨m, h1, h2⟩
      exact ⟨h1.1, h1.2.1, chn_app.mpr ⟨m, h1.2.2, h2⟩⟩
theorem chn_last {z : Nat} : ∀ {p : List Nat} {a : Nat}, chn ν a p z → z ∈ vis ν a p
  | [], a, h => by cases h; exact List.mem_cons_self
  | l :: p, a, h => List.mem_cons_of_mem _ (chn_last (p := p) h.2.2)
theorem vis_cons (a l : Nat) (p : List Nat) : vis ν a (l :: p) = a :: vis ν (ν.L l 1) p := rfl
/-- where a walk passes a node, it can be cut there -/
theorem chn_cut {x z : Nat} : ∀ {p : List Nat} {a : Nat}, chn ν a p z → x ∈ vis ν a p → ∃ p1 p2, p = p1 ++ p2 ∧ chn ν a p1 x ∧ chn ν x p2 z ∧ ∀ y ∈ vis ν x p2, y ∈ vis ν a p
  | [], a, h, hx => by
    rcases List.mem_cons.mp hx with rfl | hx
    · exact ⟨[], [], rfl, rfl, h, fun y hy => hy⟩
    · cases hx
  | l :: p, a, h, hx => by
    by_cases hxa : x = a
    · subst hxa; exact ⟨[], l :: p, rfl, rfl, h, fun y hy => hy⟩
    · have hx' : x ∈ vis ν (ν.L l 1) p := by
        rw [vis_cons] at hx
        rcases List.mem_cons.mp hx with e | e
        · exact absurd e hxa
        · exact e
      obtain ⟨p1, p2, e, h1, h2, h3⟩ := chn_cut h.2.2 hx'
      exact ⟨l :: p1, p2, by rw [e]; rfl, ⟨h.1, h.2.1, h1⟩, h2, fun y hy => by rw [vis_cons]; exact List.mem_cons_of_mem _ (h3 y hy)⟩
theorem vis_app : ∀ (p1 p2 : List Nat) {a x : Nat}, chn ν a p1 x → ∃ q, vis ν a (p1 ++ p2) = q ++ vis ν x p2
  | [], p2, a, x, h => by cases h; exact ⟨[], rfl⟩
  | l :: p1, p2, a, x, h => by
    obtain ⟨q, hq⟩ := vis_app p1 p2 h.2.2
    exact ⟨a :: q, by rw [List.cons_append, vis_cons, hq]; rfl⟩
/-- every walk holds a way that goes through no node twice -/
theorem chn_simple {z : Nat} : ∀ {p : List Nat} {a : Nat}, chn ν a p z → ∃ q, List.Sublist q p ∧ chn ν a q z ∧ (vis ν a q).Nodup
  | [], a, h => ⟨[], List.Sublist.refl _, h, by simp [vis]⟩
  | l :: p, a, h => by
    obtain ⟨q, hs, hc, hd⟩ := chn_simple h.2.2
    by_cases ha : a ∈ vis ν (ν.L l 1) q
    · obtain ⟨q1, q2, e, h1, h2, -⟩ := chn_cut hc ha
      obtain ⟨r, hr⟩ := vis_app q1 q2 h1
      refine ⟨q2, (List.Sublist.trans (by rw [e]; exact List.sublist_append_right _ _) hs).cons _, h2, ?_⟩
      rw [e, hr] at hd
      exact (List.nodup_append.mp hd).2.1
    · exact ⟨l :: q, hs.cons₂ _, ⟨h.1, h.2.1, hc⟩, by rw [vis_cons]; exact List.nodup_cons.mpr ⟨ha, hd⟩⟩
theorem mt_sub (hn : WfN ν) : ∀ {q p : List Nat}, List.Sublist q p → (∀ l ∈ p, l < ν.ln) → mt ν q + (p.length - q.length) ≤ mt ν p := by
  intro q p h
  induction h with
  | slnil => intro _; simp [mt]
  | @cons l1 l2 a hs ih =>
    intro hp
    have h1 := ih (fun l hl => hp l (List.mem_cons_of_mem _ hl))
    have h2 := (hn.2.2.2.2.1 a (hp a List.mem_cons_self)).2.2.2.1
    have h3 := hs.length_le
    rw [mt, List.length_cons]
    omega
  | @cons_cons l1 l2 a hs ih =>
    intro hp
    have h1 := ih (fun l hl => hp l (List.mem_cons_of_mem _ hl))
    rw [mt, mt, List.length_cons, List.length_cons]
    omega
/-- no more nodes than there are -/
theorem nodup_len {n : Nat} {l : List Nat} (hd : l.Nodup) (h : ∀ x ∈ l, x < n) : l.length ≤ n := by
  refine fb_holes n l.length (fun i => l.getD i 0) (fun i hi => ?_) (fun i j hij hj => ?_)
  · rw [List.getD_eq_getElem?_getD, List.getElem?_eq_getElem hi]
    exact h _ (List.getElem_mem hi)
  · rw [List.getD_eq_getElem?_getD, List.getD_eq_getElem?_getD, List.getElem?_eq_getElem (by omega), List.getElem?_eq_getElem hj]
    intro e
    have := (List.getElem_inj hd).mp e
    omega
theorem vis_lt (hn : WfN ν) {z : Nat} : ∀ {p : List Nat} {a : Nat}, a < ν.nn → chn ν a p z → ∀ x ∈ vis ν a p, x < ν.nn
  | [], a, ha, _, x, hx => by
    rcases List.mem_cons.mp hx with rfl | hx
    · exact ha
    · cases hx
  | l :: p, a, ha, h, x, hx => by
    rw [vis_cons] at hx
    rcases List.mem_cons.mp hx with rfl | hx
    · exact ha
    · exact vis_lt hn (hn.2.2.2.2.1 l h.1).2.1 h.2.2 x hx
theorem vis_len (a : Nat) (p : List Nat) : (vis ν a p).length = p.length + 1 := by simp [vis]
theorem simple_len (hn : WfN ν) {a z : Nat} {p : List Nat} (ha : a < ν.nn) (h : chn ν a p z) (hd : (vis ν a p).Nodup) : p.length ≤ 7 := by
  have h1 := nodup_len hd (vis_lt hn ha h)
  rw [vis_len] at h1
  have := hn.2.1
  omega
/-- a way goes over no link twice -/
theorem way_nodup {z : Nat} : ∀ {p : List Nat} {a : Nat}, chn ν a p z → (vis ν a p).Nodup → p.Nodup
  | [], _, _, _ => List.nodup_nil
  | l :: p, a, h, hd => by
    rw [vis_cons] at hd
    obtain ⟨h1, h2⟩ := List.nodup_cons.mp hd
    refine List.nodup_cons.mpr ⟨fun hl => ?_, way_nodup h.2.2 h2⟩
    have : ν.L l 1 ∈ (p.map fun l => ν.L l 1) := List.mem_map.mpr ⟨l, hl, rfl⟩
    exact (List.nodup_cons.mp (show (ν.L l 1 :: p.map fun l => ν.L l 1).Nodup from h2)).1 this
/-- its last node is its end: nothing of it goes on -/
theorem way_ends {z : Nat} : ∀ {p q : List Nat} {a : Nat}, chn ν a p z → chn ν a (p ++ q) z → (vis ν a (p ++ q)).Nodup → q = []
  | p, [], a, _, _, _ => rfl
  | p, l :: q, a, h1, h2, hd => by
    exfalso
    obtain ⟨r, hr⟩ := vis_app p (l :: q) h1
    rw [hr, vis_cons] at hd
    have h3 := (List.nodup_append.mp hd).2.1
    obtain ⟨m, h4, h5⟩ := chn_app.mp h2
    have hm : m = z := by
      have : ∀ {p : List Nat} {a m z : Nat}, chn ν a p m → chn ν a p z → m = z := by
        intro p
        induction p with
        | nil => intro a m z h h'; cases h; cases h'; rfl
        | cons l p ih => intro a m z h h'; exact ih h.2.2 h'.2.2
      exact this h4 h1
    subst hm
    exact (List.nodup_cons.mp h3).1 (chn_last h5.2.2)
theorem chn_fn {p : List Nat} : ∀ {a m z : Nat}, chn ν a p m → chn ν a p z → m = z := by
  induction p with
  | nil => intro a m z h h'; cases h; cases h'; rfl
  | cons l p ih => intro a m z h h'; exact ih h.2.2 h'.2.2
/-- any walk over open links gives a way -/
theorem way_of_walk (hn : WfN ν) {a z : Nat} {p : List Nat} (ha : a < ν.nn) (h : chn ν a p z) (hg : ∀ l ∈ p, go l = true) : ∃ q, List.Sublist q p ∧ IsP ν go a z 7 q := by
  obtain ⟨q, hs, hc, hd⟩ := chn_simple h
  exact ⟨q, hs, hc, hd, simple_len hn ha hc hd, fun l hl => hg l (hs.subset hl)⟩
end Path
