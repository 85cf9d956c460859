/-! the reference: rows, pools, its best way -/
theorem NetM.fr {ν : Nt} {X : List Nat} {I I' : gI} (h : NetM ν I) (hf : Fr X I I') (h1 : 310 ∉ X) (h2 : 313 ∉ X) (h3 : 315 ∉ X) : NetM ν I' := ⟨by rw [hf 310 h1]; exact h.1, by rw [hf 310 h1]; exact h.2.1, by rw [hf 310 h1]; exact h.2.2.1, fun l hl j hj => by rw [hf 313 h2]; exact h.2.2.2.1 l hl j hj, fun t ht j hj => by rw [hf 315 h3]; exact h.2.2.2.2 t ht j hj⟩
theorem MS.c {ν : Nt} {r b : Nat} {σ : St} {I I' : gI} (h : MS ν r b σ I) (e : I' r = I r) : MS ν r b σ I' := by unfold MS; rw [e]; exact h
/-- the frame of a look for a way -/
def FB (I I' : gI) : Prop := (∀ c, c ∉ [310, 319, 320, 321, 322, 323, 324] → I' c = I c) ∧ ∀ j, j ∉ [32, 33, 34, 35] → I' 310 j = I 310 j
theorem FB.rf {I : gI} : FB I I := ⟨fun _ _ => rfl, fun _ _ => rfl⟩
theorem FB.tr {I I' I'' : gI} (h : FB I I') (h2 : FB I' I'') : FB I I'' := ⟨fun c hc => (h2.1 c hc).trans (h.1 c hc), fun j hj => (h2.2 j hj).trans (h.2 j hj)⟩
theorem FB.fm {I I' : gI} (h : FM I I') : FB I I' := ⟨fun c hc => h.1 c (fun h => hc (by simp at h ⊢; omega)), h.2⟩
theorem FB.fr {I I' : gI} (h : Fr [319, 320] I I') : FB I I' := ⟨fun c hc => h c (fun h => hc (by simp at h ⊢; omega)), fun j _ => by rw [h 310 (by simp)]⟩
theorem NetM.fb {ν : Nt} {I I' : gI} (h : NetM ν I) (hf : FB I I') : NetM ν I' := ⟨by rw [hf.2 13 (by simp)]; exact h.1, by rw [hf.2 14 (by simp)]; exact h.2.1, by rw [hf.2 15 (by simp)]; exact h.2.2.1, fun l hl j hj => by rw [hf.1 313 (by simp)]; exact h.2.2.2.1 l hl j hj, fun t ht j hj => by rw [hf.1 315 (by simp)]; exact h.2.2.2.2 t ht j hj⟩
section MPool
variable {ν : Nt} {σ : St} {I : gI} {N b : Nat}
theorem ix10 (b t : Nat) : nI b + 10 + nI t = nI (b + 10 + t) := by rw [show (10 : Int32) = nI 10 from rfl, nI_add, nI_add]
theorem ix1 (b t : Nat) : nI b + 1 + nI t = nI (b + 1 + t) := by rw [show (1 : Int32) = nI 1 from rfl, nI_add, nI_add]
theorem ix19 (b t k : Nat) : nI b + 19 + 7 * nI t + nI k = nI (b + 19 + 7 * t + k) := by rw [show (19 : Int32) = nI 19 from rfl, n7', nI_add, nI_add, nI_add]
theorem m_wb (hn : WfN ν) (hs : MS ν 317 b σ I) (hw : WfW ν σ) (hb : b ≤ 82) (hN : 100 ≤ N) {t : Nat} (ht : t < ν.tn) : mX11_wayBits N (nI b) (nI t) I = some (wb (σ.w t)) := by
  have htn := hn.2.2.2.1
  have hln := hn.2.2.1
  have hwt := hw t ht
  have hst := hs.2 t ht
  have hlen : ∀ k, k ≤ (σ.w t).length → (I 317 (b + 10 + t) ≤ nI k ↔ (σ.w t).length ≤ k) := by
    intro k hk
    rw [hst.2.1]
    by_cases he : σ.w t = []
    · rw [if_pos he, he]
      refine ⟨fun _ => Nat.zero_le _, fun _ => ?_⟩
      have : k = 0 := by rw [he] at hk; simpa using hk
      subst this
      decide
    · rw [if_neg he, nI_leI (by omega) (by omega)]
  obtain ⟨v, hP, e⟩ := loopP (F := fun n v i => mX11_wayBits_5 (nI b) (nI t) I n v i) (b := (σ.w t).length) (out := id)
    (P := fun k v => v = orl 0 ((σ.w t).take k))
    (fun n v _ => by
      show mX11_wayBits_5 (nI b) (nI t) I (n + 1) v (nI (σ.w t).length) = some v
      rw [mX11_wayBits_5, ix10, ck_n (by omega) (by decide), nI_clamp (by omega), if_pos ((hlen _ (Nat.le_refl _)).mpr (Nat.le_refl _))])
    (fun n k v hk hP => by
      refine ⟨_, ?_, rfl⟩
      show mX11_wayBits_5 (nI b) (nI t) I (n + 1) v (nI k) = mX11_wayBits_5 (nI b) (nI t) I n _ (nI (k + 1))
      rw [mX11_wayBits_5, ix10, ck_n (by omega) (by decide), nI_clamp (by omega), if_neg (fun h => by rw [hlen k (by omega)] at h; omega), ix19, ck_n (by omega) (by decide), nI_clamp (by omega), hst.2.2 k hk, nm_n, nI_1, List.take_succ_eq_append_getElem hk, orl_cons, hP])
    N 0 0 (Nat.zero_le _) (by omega) (by rw [List.take_zero]; rfl)
  unfold mX11_wayBits
  rw [show mX11_wayBits_5 (nI b) (nI t) I N 0 0 = some v from e, ob_some, hP, List.take_length, orl_wb (fun l hl => by have := hwt.2.2 l hl; omega)]
theorem m_hold (hn : WfN ν) (hI : NetM ν I) {t : Nat} (ht : t < ν.tn) : mX11_holdOf (nI t) I = some (nI (ν.T t 4)) := by
  have htn := hn.2.2.2.1
  unfold mX11_holdOf
  rw [show (4 : Int32) = nI 4 from rfl, n7, ck_n (by omega) (by decide), nI_clamp (by omega), hI.2.2.2.2 t ht 4 (by decide)]
theorem m_setup (hn : WfN ν) (hI : NetM ν I) {t : Nat} (ht : t < ν.tn) : mX11_setupOf (nI t) I = some (nI (ν.T t 3)) := by
  have htn := hn.2.2.2.1
  unfold mX11_setupOf
  rw [show (3 : Int32) = nI 3 from rfl, n7, ck_n (by omega) (by decide), nI_clamp (by omega), hI.2.2.2.2 t ht 3 (by decide)]
set_option maxHeartbeats 1000000 in
theorem m_pool (hn : WfN ν) (hI : NetM ν I) (hs : MS ν 317 b σ I) (hw : WfW ν σ) (hb : b ≤ 82) (hN : 100 ≤ N) {l p : Nat} (hl : l < ν.ln) (hp : p ≤ 7) : mX11_poolAt N (nI b) (nI l) (nI p) I = some (zI (pl ν σ 99 l p)) := by
  have htn := hn.2.2.2.1
  have hln := hn.2.2.1
  unfold mX11_poolAt
  rw [show (3 : Int32) = nI 3 from rfl, n5, ck_n (by omega) (by decide), nI_clamp (by omega), hI.2.2.2.1 l hl 3 (by decide)]
  obtain ⟨v, hP, e⟩ := loopP (F := fun n v i => mX11_poolAt_15 N (nI b) (nI l) (nI p) I n v i) (b := ν.tn) (out := id)
    (P := fun k v => v = zI ((ν.L l 3 : Int) - sm (fun i => if i ≠ 99 ∧ ν.T i 4 ≤ p ∧ l ∈ σ.w i then (σ.bd i : Int) else 0) k))
    (fun n v _ => by
      show mX11_poolAt_15 N (nI b) (nI l) (nI p) I (n + 1) v (nI ν.tn) = some v
      rw [mX11_poolAt_15, hI.2.2.1, if_pos (nI_le (Nat.le_refl _) (by omega))])
    (fun n k v hk hP => by
      refine ⟨_, ?_, rfl⟩
      show mX11_poolAt_15 N (nI b) (nI l) (nI p) I (n + 1) v (nI k) = mX11_poolAt_15 N (nI b) (nI l) (nI p) I n _ (nI (k + 1))
      have hT := hn.2.2.2.2.2 k hk
      rw [mX11_poolAt_15, hI.2.2.1, if_neg (nI_ge hk (by omega)), m_hold hn hI hk, ob_some, m_wb hn hs hw hb hN hk, ob_some, ix1, ck_n (by omega) (by decide), nI_clamp (by omega), (hs.2 k hk).1, nI_1, sm]
      subst hP
      have h99 : k ≠ 99 := by omega
      by_cases h2 : ν.T k 4 ≤ p
      · rw [if_neg (nI_nlt h2 (by omega))]
        by_cases h3 : l ∈ σ.w k
        · rw [if_pos ((mb1 (by omega) _).mpr (by rw [wb_t hn hw hk (by omega)]; simp [h3])), if_pos ⟨h99, h2, h3⟩, zI_subn]
          congr 2
          omega
        · rw [if_neg (fun h => by rw [mb1 (by omega), wb_t hn hw hk (by omega)] at h; simp [h3] at h), if_neg (fun h => h3 h.2.2), Int.add_zero]
      · rw [if_pos (nI_lt (by omega) (by omega)), if_neg (fun h => h2 h.2.1), Int.add_zero])
    N 0 (nI (ν.L l 3)) (Nat.zero_le _) (by omega) (by show nI _ = zI _; rw [sm, Int.sub_zero, zI_nat])
  rw [show mX11_poolAt_15 N (nI b) (nI l) (nI p) I N (nI (ν.L l 3)) 0 = some v from e, ob_some, hP]
  rfl
/-- counted back -/
def bk (σ : St) (t : Nat) (l : Nat) : Int := if l ∈ σ.w t then (σ.bd t : Int) else 0
theorem pl_back {t l p : Nat} (ht : t < ν.tn) (hn : ν.tn ≤ 9) (hh : ν.T t 4 ≤ p) : pl ν σ 99 l p + bk σ t l = pl ν σ t l p := by
  unfold pl bk
  rw [sm_one (f := fun i => if i ≠ 99 ∧ ν.T i 4 ≤ p ∧ l ∈ σ.w i then (σ.bd i : Int) else 0) ht]
  have e : sm (fun k => if k = t then 0 else if k ≠ 99 ∧ ν.T k 4 ≤ p ∧ l ∈ σ.w k then (σ.bd k : Int) else 0) ν.tn = sm (fun i => if i ≠ t ∧ ν.T i 4 ≤ p ∧ l ∈ σ.w i then (σ.bd i : Int) else 0) ν.tn := by
    apply sm_congr
    intro k hk
    by_cases h1 : k = t
    · rw [if_pos h1, if_neg (fun h => h.1 h1)]
    · rw [if_neg h1]
      by_cases h2 : ν.T k 4 ≤ p ∧ l ∈ σ.w k
      · rw [if_pos ⟨by omega, h2⟩, if_pos ⟨h1, h2⟩]
      · rw [if_neg (fun h => h2 h.2), if_neg (fun h => h2 h.2)]
  rw [e]
  by_cases h1 : l ∈ σ.w t
  · rw [if_pos ⟨by omega, hh, h1⟩, if_pos h1]; omega
  · rw [if_neg (fun h => h1 h.2.2), if_neg h1]; omega
theorem nar0 : vp_nar .boolean 0 = 0 := rfl
theorem nar1 : vp_nar .boolean 1 = 1 := rfl
/-- whose way is counted back: own is that way, or none -/
def ownA (ν : Nt) (σ : St) (a : Int32) (f : Nat → Int) : Prop := (a = -1 ∧ f = fun _ => 0) ∨ ∃ t, t < ν.tn ∧ a = nI t ∧ f = bk σ t
/-- at which priority, or whatever is taken -/
def priA (ν : Nt) (σ : St) (a5 : Int32) (want : Nat) (f : Nat → Int) (l : Nat) (q : Bool) : Prop := (a5 = -1 ∧ q = true) ∨ ∃ p, p ≤ 7 ∧ a5 = nI p ∧ q = decide ((want : Int) ≤ pl ν σ 99 l p + f l)
set_option maxHeartbeats 4000000 in
theorem m_pools (hn : WfN ν) (hI : NetM ν I) (hs : MS ν 317 b σ I) (hw : WfW ν σ) (hb : b ≤ 82) (hN : 100 ≤ N) {a a5 : Int32} {f : Nat → Int} {want shun : Nat} {q : Nat → Bool} (ha : ownA ν σ a f) (hwt : want ≤ 99) (hsh : shun ≤ 15) (hq : ∀ l, l < ν.ln → priA ν σ a5 want f l (q l)) :
    ∃ I', mX11_laysPools N (nI b) a (nI want) a5 (nI shun) I = some I' ∧ Fr [319, 320] I I' ∧ GoM ν (fun l => (bt σ.up l && decide (ν.L l 4 &&& shun = 0)) && q l) (fun l => pl ν σ 99 l 7 + f l) I' := by
  have htn := hn.2.2.2.1
  have hln := hn.2.2.1
  have hf : ∀ l, 0 ≤ f l ∧ f l ≤ 99 := by
    intro l
    rcases ha with ⟨-, rfl⟩ | ⟨t, ht, -, rfl⟩
    · exact ⟨Int.le_refl _, by show (0 : Int) ≤ 99; omega⟩
    · have := (hw t ht).1
      unfold bk
      split <;> omega
  obtain ⟨own, e0, hown⟩ : ∃ own, (if a = (-1) then (some 0) else (Option.bind (mX11_wayBits N (nI b) a I) (fun r3 => some r3)) : Option Int32) = some own ∧ ∀ (J : gI), J 317 = I 317 → ∀ l, l < ν.ln → (if ((own >>> (nI l &&& 31)) &&& 1) = 1 then (ck ((nI b + 1) + a) 164 (some (J 317 ((nI b + 1) + a).toNatClampNeg))) else (some 0) : Option Int32) = some (zI (f l)) := by
    rcases ha with ⟨rfl, rfl⟩ | ⟨t, ht, rfl, rfl⟩
    · refine ⟨0, if_pos rfl, fun J _ l hl => ?_⟩
      rw [if_neg (fun h => by rw [mb1 (by omega), b_0] at h; cases h)]
      rfl
    · refine ⟨wb (σ.w t), by rw [if_neg (nI_m1 (by omega)), m_wb hn hs hw hb hN ht, ob_some], fun J hJ l hl => ?_⟩
      unfold bk
      by_cases h3 : l ∈ σ.w t
      · rw [if_pos ((mb1 (by omega) _).mpr (by rw [wb_t hn hw ht (by omega)]; simp [h3])), ix1, ck_n (by omega) (by decide), nI_clamp (by omega), hJ, (hs.2 t ht).1, if_pos h3, zI_nat]
      · rw [if_neg (fun h => by rw [mb1 (by omega), wb_t hn hw ht (by omega)] at h; simp [h3] at h), if_neg h3]
        rfl
  obtain ⟨I', hP, e⟩ := loopP (F := fun n s i => mX11_laysPools_20 N (nI b) a (nI want) a5 (nI shun) own n i s) (b := ν.ln) (out := id)
    (P := fun k s => Fr [319, 320] I s ∧ ∀ l, l < k → s 319 l = (if ((bt σ.up l && decide (ν.L l 4 &&& shun = 0)) && q l) = true then 1 else 0) ∧ s 320 l = zI (pl ν σ 99 l 7 + f l))
    (fun n s hP => by
      show mX11_laysPools_20 N (nI b) a (nI want) a5 (nI shun) own (n + 1) (nI ν.ln) s = some s
      rw [mX11_laysPools_20, hP.1 310 (by simp), hI.2.1, if_pos (nI_le (Nat.le_refl _) (by omega))])
    (fun n k s hk hP => by
      have hIs : NetM ν s := hI.fr hP.1 (by simp) (by simp) (by simp)
      have hss : MS ν 317 b σ s := hs.c (hP.1 317 (by simp))
      have hL := hn.2.2.2.2.1 k hk
      obtain ⟨s1, hs1⟩ : ∃ s1, s1 = upd2 s 320 k (zI (pl ν σ 99 k 7 + f k)) := ⟨_, rfl⟩
      have f1 : Fr [319, 320] s s1 := by rw [hs1]; exact Fr.rf.u2 (by simp)
      have hI1 : NetM ν s1 := hIs.fr f1 (by simp) (by simp) (by simp)
      have hs1' : MS ν 317 b σ s1 := hss.c (f1 317 (by simp))
      have e7 : (7 : Int32) = nI 7 := rfl
      have up1 : mX11_isUp (nI b) (nI k) s1 = some (if bt σ.up k = true then 1 else 0) := by
        unfold mX11_isUp
        rw [show nI b + 0 = nI b from by rw [show (0 : Int32) = nI 0 from rfl, nI_add]; rfl, ck_n (by omega) (by decide), nI_clamp (by omega), hs1'.1]
        cases h : bt σ.up k with
        | true => rw [if_pos ((mb1 (by omega) _).mpr h), if_pos rfl]
        | false => rw [if_neg (fun h9 => by rw [(mb1 (by omega) _).mp h9] at h; cases h), if_neg (by decide)]
      have hpl7 := pl_sml (x := 99) (p := 7) hn hw hk
      have hfk := hf k
      have q4 : s1 313 (5 * k + 4) = nI (ν.L k 4) := hI1.2.2.2.1 k hk 4 (by decide)
      have hle := nand_le (b := shun) hL.2.2.2.2.2.2.2
      have key : mX11_laysPools_20 N (nI b) a (nI want) a5 (nI shun) own (n + 1) (nI k) s = mX11_laysPools_20 N (nI b) a (nI want) a5 (nI shun) own n (nI (k + 1)) (upd2 s1 319 k (if ((bt σ.up k && decide (ν.L k 4 &&& shun = 0)) && q k) = true then 1 else 0)) := by
        rw [mX11_laysPools_20, hIs.2.1, if_neg (nI_ge hk (by omega)), hown s (hP.1 317 (by simp)) k hk, ob_some, e7, m_pool hn hIs hss hw hb hN hk (Nat.le_refl 7), ob_some, ck_n (by omega) (by decide), nI_clamp (by omega), zI_add, ← hs1, up1, ob_some, nI_1, nar0, nar1, nm_n, nm_n, nm_n]
        cases h1 : bt σ.up k with
        | false => rw [if_neg (show ¬ false = true by decide), if_pos rfl]; simp
        | true =>
          rw [if_pos (show true = true from rfl), if_neg (show ¬ (1 : Int32) = 0 by decide), show (4 : Int32) = nI 4 from rfl, n5, ck_n (by omega) (by decide), nI_clamp (by omega), q4, nx_and]
          by_cases h2 : ν.L k 4 &&& shun = 0
          · rw [if_pos (by rw [h2]; rfl)]
            rcases hq k hk with ⟨rfl, hqk⟩ | ⟨p, hp, rfl, hqk⟩
            · rw [if_pos rfl, hqk]; simp [h2]
            · have hplp := pl_sml (x := 99) (p := p) hn hw hk
              rw [if_neg (nI_m1 (by omega)), m_pool hn hI1 hs1' hw hb hN hk hp, ob_some, zI_add, ← zI_nat want, hqk]
              by_cases h3 : (want : Int) ≤ pl ν σ 99 k p + f k
              · rw [if_neg (fun h => by rw [zI_lt ⟨by omega, by omega⟩ ⟨by omega, by omega⟩] at h; omega)]; simp [h2, h3]
              · rw [if_pos (by rw [zI_lt ⟨by omega, by omega⟩ ⟨by omega, by omega⟩]; omega)]; simp [h2, h3]
          · rw [if_neg (fun h => h2 ((nI_eq0 (by omega)).mp h))]; simp [h2]
      refine ⟨_, key, (hP.1.tr f1).u2 (by simp), fun l hl => ?_⟩
      by_cases hlk : l = k
      · subst hlk
        refine ⟨u2_at, ?_⟩
        rw [u2_c (by decide), hs1, u2_at]
      · rw [u2_ne (by omega), u2_c (by decide), hs1, u2_c (by decide), u2_ne (by omega)]
        exact hP.2 l (by omega))
    N 0 I (Nat.zero_le _) (by omega) ⟨Fr.rf, fun l h => by omega⟩
  refine ⟨I', ?_, hP.1, hP.2⟩
  unfold mX11_laysPools
  rw [e0, ob_some, show mX11_laysPools_20 N (nI b) a (nI want) a5 (nI shun) own N 0 I = some I' from e, ob_some]
theorem GoM.congr {go go' : Nat → Bool} {wd wd' : Nat → Int} {I : gI} (h : GoM ν go wd I) (h1 : ∀ l, l < ν.ln → go l = go' l) (h2 : ∀ l, l < ν.ln → wd l = wd' l) : GoM ν go' wd' I := fun l hl => by rw [← h1 l hl, ← h2 l hl]; exact h l hl
/-- the best way of a tunnel, as the reference finds it -/
theorem m_hasBest (hn : WfN ν) (hI : NetM ν I) (hs : MS ν 317 b σ I) (hw : WfW ν σ) (hb : b ≤ 82) (hN : 100000000000 ≤ N) {t want : Nat} (ht : t < ν.tn) (hwt : want ≤ 99) :
    ∃ I' q, bst ν σ t want (ν.T t 3) q ∧ FB I I' ∧ ((q ≠ [] ∧ mX11_hasBest N (nI b) (nI t) (nI want) I = some (1, I') ∧ I' 310 32 = nI q.length ∧ ∀ k, (hk : k < q.length) → I' 322 k = nI q[k]) ∨ (q = [] ∧ mX11_hasBest N (nI b) (nI t) (nI want) I = some (0, I') ∧ I' 310 32 = -1)) := by
  have htn := hn.2.2.2.1
  have hT := hn.2.2.2.2.2 t ht
  obtain ⟨I1, e1, f1, g1⟩ := m_pools (N := N) (a := nI t) (a5 := nI (ν.T t 3)) (f := bk σ t) (want := want) (shun := ν.T t 5) (q := fun l => decide ((want : Int) ≤ pl ν σ 99 l (ν.T t 3) + bk σ t l)) hn hI hs hw hb (by omega) (Or.inr ⟨t, ht, rfl, rfl⟩) hwt hT.2.2.2.2.2.2.2.1 (fun l hl => Or.inr ⟨ν.T t 3, hT.2.2.2.2.2.1, rfl, rfl⟩)
  have hI1 := hI.fr f1 (by simp) (by simp) (by simp)
  have g1' : GoM ν (fit ν σ t want (ν.T t 3)) (fun l => if l < ν.ln then pl ν σ t l 7 else 0) I1 := g1.congr (fun l hl => by
    unfold fit opn
    rw [pl_back ht htn hT.2.2.2.2.2.2.1]) (fun l hl => by rw [if_pos hl, pl_back ht htn (by omega)])
  obtain ⟨I2, f2, -, h2⟩ := m_bestw (N := N) (a := ν.T t 0) (z := ν.T t 1) (h := ν.T t 6) hn hI1 g1' hT.1 hT.2.1 hT.2.2.1 hT.2.2.2.2.2.2.2.2.1 hT.2.2.2.2.2.2.2.2.2 (fun l => by
    by_cases hl : l < ν.ln
    · have := pl_sml (x := t) (p := 7) hn hw hl
      rw [if_pos hl]; omega
    · rw [if_neg hl]; omega) hN
  have unf : ∀ r I2, mX11_isFound N (nI (ν.T t 0)) (nI (ν.T t 1)) (nI (ν.T t 6)) I1 = some (r, I2) → (r = 0 ∨ r = 1) → mX11_hasBest N (nI b) (nI t) (nI want) I = some (r, I2) := by
    intro r I2 e hr
    unfold mX11_hasBest
    rw [m_setup hn hI ht, ob_some, show (5 : Int32) = nI 5 from rfl, show (1 : Int32) = nI 1 from rfl, show (6 : Int32) = nI 6 from rfl, n7, n7, n7, n7', ck_n (by omega) (by decide), nI_clamp (by omega), hI.2.2.2.2 t ht 5 (by decide), e1, ob_some, ck_n (by omega) (by decide), ck_n (by omega) (by decide), ck_n (by omega) (by decide), nI_clamp (by omega), nI_clamp (by omega), nI_clamp (by omega), show I1 315 (7 * t) = nI (ν.T t 0) from hI1.2.2.2.2 t ht 0 (by decide), hI1.2.2.2.2 t ht 1 (by decide), hI1.2.2.2.2 t ht 6 (by decide), e, ob_some]
    rcases hr with rfl | rfl
    · exact zo_0
    · exact zo_1
  rcases h2 with ⟨e2, p, hp, k1, k2, k3⟩ | ⟨e2, k1, k2⟩
  · have hp' : isB ν (fit ν σ t want (ν.T t 3)) (fun l => pl ν σ t l 7) (ν.T t 0) (ν.T t 1) (ν.T t 6) p := isB_wd (fun l hl => if_pos hl) hp
    refine ⟨I2, p, Or.inr hp', (FB.fr f1).tr (FB.fm f2), Or.inl ⟨fun e => ?_, unf 1 I2 e2 (Or.inr rfl), k1, k3⟩⟩
    subst e
    exact hT.2.2.1 hp.1.1
  · exact ⟨I2, [], Or.inl ⟨rfl, k2⟩, (FB.fr f1).tr (FB.fm f2), Or.inr ⟨rfl, unf 0 I2 e2 (Or.inl rfl), k1⟩⟩
/-- there is one best way alone -/
theorem bst_one (hn : WfN ν) {t bd p : Nat} (ht : t < ν.tn) {q q' : List Nat} (h : bst ν σ t bd p q) (h' : bst ν σ t bd p q') : q = q' := by
  rcases h with ⟨rfl, h⟩ | h
  · rcases h' with ⟨rfl, -⟩ | h'
    · rfl
    · exact absurd h'.1 (h _)
  · rcases h' with ⟨-, h'⟩ | h'
    · exact absurd h.1 (h' _)
    · exact isB_one h h'
end MPool
