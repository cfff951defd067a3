/-! THE SMALL MACHINE'S LOCALS AND HEAP, AND THE REAL ONES -/
def mv_ra (v : Value) : Bool := match v with
  | .retAddr _ => true
  | _ => false
def mv_prs (ls : List Value) : List (Nat × Value) := (List.range ls.length).filterMap fun i => match ls[i]? with
  | some v => bif mv_ra v then none else some (i, v)
  | none => none
theorem mv_mem_prs {ls : List Value} {i : Nat} {v : Value} : (i, v) ∈ mv_prs ls ↔ ls[i]? = some v ∧ mv_ra v = false := by
  unfold mv_prs
  rw [List.mem_filterMap]
  constructor
  · rintro ⟨k, hk, e⟩
    cases h : ls[k]? with
    | none => rw [h] at e; cases e
    | some w =>
      rw [h] at e
      cases hr : mv_ra w with
      | true => simp only [hr, cond_true] at e; cases e
      | false =>
        simp only [hr, cond_false] at e
        cases e
        exact ⟨h, hr⟩
  · rintro ⟨h, hr⟩
    refine ⟨i, List.mem_range.mpr (List.getElem?_eq_some_iff.mp h).1, ?_⟩
    simp only [h, hr, cond_false]
def mv_lr (w : Bool) (n : Nat) (ls : List Value) (rls : Array Slot) : Prop := ls.length = n ∧ lv_has rls n (mv_prs ls) ∧ (w = false → ∀ v ∈ ls, v.category = 1)
theorem mv_lr_at {w : Bool} {n : Nat} {ls : List Value} {rls : Array Slot} (h : mv_lr w n ls rls) {i : Nat} {v : Value} (hi : ls[i]? = some v) (hv : mv_ra v = false) : rls[i]? = some (.val v) :=
  h.2.1.2.2 (i, v) (mv_mem_prs.mpr ⟨hi, hv⟩)
theorem mv_lr_pos {w : Bool} {n : Nat} {ls : List Value} {rls : Array Slot} (h : mv_lr w n ls rls) {i : Nat} {v : Value} (hi : ls[i]? = some v) (hv : mv_ra v = false) : ∃ k : Nat, (mv_prs ls)[k]? = some (i, v) :=
  List.mem_iff_getElem?.mp (mv_mem_prs.mpr ⟨hi, hv⟩)
theorem mv_wid_cat {v : Value} (h : mv_wid v = false) : ¬ v.category = 2 := by cases v <;> simp_all [mv_wid, Value.category]
theorem mv_ra_cat {v : Value} (h : mv_ra v = true) : v.category = 1 := by cases v <;> simp_all [mv_ra, Value.category]
/-- behind a store of one slot: of a value, or (v') of one that is forgotten -/
theorem mv_lr_set {w : Bool} {n : Nat} {ls : List Value} {rls rls' : Array Slot} (h : mv_lr w n ls rls) {i : Nat} {v v' : Value} (hc : v'.category = 1) (hv : v' = v ∨ mv_ra v' = true)
    (hw : w = true → mv_wid (ls.getD (i - 1) .null) = false) (h' : lv_has rls' n ((i, v) :: (mv_prs ls).filter (fun q => !(q.1 == i) && !(q.1 + 1 == i && q.2.category == 2)))) : mv_lr w n (ls.set i v') rls' := by
  refine ⟨by rw [List.length_set]; exact h.1, ⟨h'.1, h'.2.1, fun q hq => ?_⟩, fun hw2 x hx => ?_⟩
  · obtain ⟨j, x⟩ := q
    obtain ⟨h1, h2⟩ := mv_mem_prs.mp hq
    by_cases hj : j = i
    · subst hj
      rw [List.getElem?_set] at h1
      simp only [if_true] at h1
      split at h1
      · cases h1
        rcases hv with rfl | hv
        · exact h'.2.2 _ List.mem_cons_self
        · rw [hv] at h2; cases h2
      · cases h1
    · rw [List.getElem?_set_ne (fun e => hj e.symm)] at h1
      refine h'.2.2 (j, x) (List.mem_cons_of_mem _ (List.mem_filter.mpr ⟨mv_mem_prs.mpr ⟨h1, h2⟩, ?_⟩))
      have a1 : (j == i) = false := by simpa using hj
      have a2 : (j + 1 == i && x.category == 2) = false := by
        by_cases hj1 : j + 1 = i
        · have hx : ¬ x.category = 2 := by
            cases w with
            | false => have := h.2.2 rfl x (List.mem_of_getElem? h1); omega
            | true =>
              have e : ls.getD (i - 1) .null = x := by
                subst hj1
                show ls.getD (j + 1 - 1) .null = x
                rw [Nat.add_sub_cancel, List.getD_eq_getElem?_getD, h1]; rfl
              have := hw rfl
              rw [e] at this
              exact mv_wid_cat this
          simp [hx]
        · simp [hj1]
      simp only [a1, a2]; rfl
  · rcases List.mem_or_eq_of_mem_set hx with hx | rfl
    · exact h.2.2 hw2 x hx
    · exact hc
theorem mv_lr_set2 {n : Nat} {ls : List Value} {rls rls' : Array Slot} (h : mv_lr true n ls rls) {i : Nat} {v : Value}
    (hw : mv_wid (ls.getD (i - 1) .null) = false) (h' : lv_has rls' n ((i, v) :: (mv_prs ls).filter (fun q => !(q.1 == i) && (!(q.1 == i + 1) && !(q.1 + 1 == i && q.2.category == 2))))) : mv_lr true n ((ls.set i v).set (i + 1) (.retAddr 0)) rls' := by
  refine ⟨by rw [List.length_set, List.length_set]; exact h.1, ⟨h'.1, h'.2.1, fun q hq => ?_⟩, fun hw2 => by cases hw2⟩
  obtain ⟨j, x⟩ := q
  obtain ⟨h1, h2⟩ := mv_mem_prs.mp hq
  by_cases hj2 : j = i + 1
  · subst hj2
    rw [List.getElem?_set] at h1
    simp only [if_true] at h1
    split at h1
    · cases h1; cases h2
    · cases h1
  · rw [List.getElem?_set_ne (fun e => hj2 e.symm)] at h1
    by_cases hj : j = i
    · subst hj
      rw [List.getElem?_set] at h1
      simp only [if_true] at h1
      split at h1
      · cases h1
        exact h'.2.2 _ List.mem_cons_self
      · cases h1
    · rw [List.getElem?_set_ne (fun e => hj e.symm)] at h1
      refine h'.2.2 (j, x) (List.mem_cons_of_mem _ (List.mem_filter.mpr ⟨mv_mem_prs.mpr ⟨h1, h2⟩, ?_⟩))
      have a1 : (j == i) = false := by simpa using hj
      have a3 : (j == i + 1) = false := by simpa using hj2
      have a2 : (j + 1 == i && x.category == 2) = false := by
        by_cases hj1 : j + 1 = i
        · have hx : ¬ x.category = 2 := by
            have e : ls.getD (i - 1) .null = x := by
              subst hj1
              show ls.getD (j + 1 - 1) .null = x
              rw [Nat.add_sub_cancel, List.getD_eq_getElem?_getD, h1]; rfl
            rw [e] at hw
            exact mv_wid_cat hw
          simp [hx]
        · simp [hj1]
      simp only [a1, a2, a3]; rfl
theorem mv_up_s {α : Type} (o : Nat → α) (a : Nat) (c : α) : mv_up o a c a = c := if_pos rfl
theorem mv_up_n {α : Type} (o : Nat → α) {a b : Nat} (c : α) (h : b ≠ a) : mv_up o a c b = o b := if_neg h
-- the heap
def mv_is (D : va_G) (s0 : State) (a : Nat) (c : mv_C) (H : Heap) : Prop := match c with
  | .inl q => ∃ r : vw_C, vwCl[q.1]? = some r ∧ q.2.length = r.2.2 ∧ t_OB a (D.1 q.1) r.2.2 (D.2 q.1) H (vp_V q.2)
  | .inr q => ∃ cA, H[a]? = some (arrV cA q.2.1 q.2.2) ∧ ArrOfT s0 cA q.1 ∧ va_RA s0 cA q.1 ∧ (mv_prim q.1 = true → ∀ j, j < q.2.1 → fits q.1 (q.2.2 j) = true)
theorem mv_is_eq {D : va_G} {s0 : State} {a : Nat} {c : mv_C} {H H' : Heap} (h : H'[a]? = H[a]?) (k : mv_is D s0 a c H) : mv_is D s0 a c H' := by
  cases c with
  | inl q =>
    obtain ⟨r, h1, h2, cell, h3, h4⟩ := k
    exact ⟨r, h1, h2, cell, by rw [h]; exact h3, h4⟩
  | inr q =>
    obtain ⟨cA, h1, h2⟩ := k
    exact ⟨cA, by rw [h]; exact h1, h2⟩
theorem mv_is_lt {D : va_G} {s0 : State} {a : Nat} {c : mv_C} {H : Heap} (k : mv_is D s0 a c H) : a < H.size := by
  cases c with
  | inl q =>
    obtain ⟨r, h1, h2, cell, h3, h4⟩ := k
    exact (Array.getElem?_eq_some_iff.mp h3).1
  | inr q =>
    obtain ⟨cA, h1, h2⟩ := k
    exact (Array.getElem?_eq_some_iff.mp h1).1
/-- .. as far as it is read -/
def mv_ro (D : va_G) (s0 : State) (a : Nat) (c : mv_C) (H : Heap) : Prop := match c with
  | .inl q => ∃ r : vw_C, vwCl[q.1]? = some r ∧ q.2.length ≤ r.2.2 ∧ ∃ cell : Cell, H[a]? = some cell ∧ cell.cls = D.1 q.1 ∧ (cell.vm ≠ .unknown ∧ cell.vm.isStatics = false) ∧ ∀ k, k < q.2.length → cell.slots[D.2 q.1 k]? = some (vp_V q.2 k)
  | .inr q => ∃ cell : Cell, H[a]? = some cell ∧ s0.isArrayOf cell q.1 ∧ cell.vm ≠ .unknown ∧ cell.slots.size = q.2.1 ∧ ∀ j, j < q.2.1 → cell.slots[j]? = some (q.2.2 j)
theorem mv_ro_eq {D : va_G} {s0 : State} {a : Nat} {c : mv_C} {H H' : Heap} (h : H'[a]? = H[a]?) (k : mv_ro D s0 a c H) : mv_ro D s0 a c H' := by
  cases c with
  | inl q =>
    obtain ⟨r, h1, h2, cell, h3, h4⟩ := k
    exact ⟨r, h1, h2, cell, by rw [h]; exact h3, h4⟩
  | inr q =>
    obtain ⟨cell, h1, h2⟩ := k
    exact ⟨cell, by rw [h]; exact h1, h2⟩
theorem mv_is_ro {D : va_G} {s0 : State} {a : Nat} {c : mv_C} {H : Heap} (k : mv_is D s0 a c H) : mv_ro D s0 a c H := by
  cases c with
  | inl q =>
    obtain ⟨r, h1, h2, cell, h3, h4, h5, h6⟩ := k
    exact ⟨r, h1, Nat.le_of_eq h2, cell, h3, h4, ⟨(by rw [h5]; intro h; cases h), (by rw [h5]; rfl)⟩, fun k hk => h6 k (h2 ▸ hk)⟩
  | inr q =>
    obtain ⟨cA, h1, h2, h3, h4⟩ := k
    exact ⟨_, h1, h2 _ _, (fun h => by cases h), arrV_size _ _ _, fun j hj => arrV_read _ _ hj⟩
def mv_HR (D : va_G) (s0 : State) (h : mv_H) (H : Heap) : Prop := H.size = h.2.1 ∧ s0.heap.size ≤ h.2.1 ∧ (∀ q, q < s0.heap.size → H[q]? = s0.heap[q]?) ∧ ∀ a c, h.1 a = some c → s0.heap.size ≤ a ∧ mv_is D s0 a c H
theorem mv_HR_up {D : va_G} {s0 : State} {h : mv_H} {H H' : Heap} (k : mv_HR D s0 h H) {a : Nat} {c : mv_C} (ha : s0.heap.size ≤ a) (hz : H'.size = H.size) (hk : ∀ q, q ≠ a → H'[q]? = H[q]?) (hc : mv_is D s0 a c H') : mv_HR D s0 (mv_up h.1 a (some c), h.2) H' := by
  refine ⟨hz.trans k.1, k.2.1, fun q hq => (hk q (by omega)).trans (k.2.2.1 q hq), fun b c' hb => ?_⟩
  have hb : mv_up h.1 a (some c) b = some c' := hb
  by_cases e : b = a
  · subst e; rw [mv_up_s] at hb; cases hb; exact ⟨ha, hc⟩
  · rw [mv_up_n _ _ e] at hb; exact ⟨(k.2.2.2 b c' hb).1, mv_is_eq (hk b e) (k.2.2.2 b c' hb).2⟩
theorem mv_HR_new {D : va_G} {s0 : State} {h : mv_H} {H H' : Heap} (k : mv_HR D s0 h H) {c : mv_C} {sl : Nat} (hz : H'.size = H.size + 1) (hk : ∀ q, q < H.size → H'[q]? = H[q]?) (hc : mv_is D s0 h.2.1 c H') : mv_HR D s0 (mv_up h.1 h.2.1 (some c), h.2.1 + 1, sl) H' := by
  have h1 := k.1
  refine ⟨by show H'.size = h.2.1 + 1; omega, by have := k.2.1; show s0.heap.size ≤ h.2.1 + 1; omega, fun q hq => (hk q (by have := k.2.1; omega)).trans (k.2.2.1 q hq), fun b c' hb => ?_⟩
  have hb : mv_up h.1 h.2.1 (some c) b = some c' := hb
  by_cases e : b = h.2.1
  · subst e; rw [mv_up_s] at hb; cases hb; exact ⟨k.2.1, hc⟩
  · rw [mv_up_n _ _ e] at hb; exact ⟨(k.2.2.2 b c' hb).1, mv_is_eq (hk b (mv_is_lt (k.2.2.2 b c' hb).2)) (k.2.2.2 b c' hb).2⟩
/-- one more cell of which nothing is known -/
theorem mv_HR_one {D : va_G} {s0 : State} {h : mv_H} {H H' : Heap} (k : mv_HR D s0 h H) {sl : Nat} (hz : H'.size = H.size + 1) (hk : ∀ q, q < H.size → H'[q]? = H[q]?) : mv_HR D s0 (h.1, h.2.1 + 1, sl) H' := by
  have h1 := k.1
  refine ⟨by show H'.size = h.2.1 + 1; omega, by have := k.2.1; show s0.heap.size ≤ h.2.1 + 1; omega, fun q hq => (hk q (by have := k.2.1; omega)).trans (k.2.2.1 q hq), fun b c' hb => ?_⟩
  exact ⟨(k.2.2.2 b c' hb).1, mv_is_eq (hk b (mv_is_lt (k.2.2.2 b c' hb).2)) (k.2.2.2 b c' hb).2⟩
/-- what holds of the launch, of the start, of what stands outside -/
def mv_GL (D : va_G) (l : Launch) (s0 : State) (a0 : Array Value) (X : mv_X) : Prop :=
  l.stackTraces = false ∧ (∀ w ∈ lw_tbl, w.before a0 s0 = true) ∧ va_K D vwCl [] s0 ∧ (∀ a c, X.1 a = some c → a < s0.heap.size ∧ mv_ro D s0 a c s0.heap) ∧
  (∀ n q, mv_sn n = some q → vk_R q.1 q.2.1 q.2.2 (X.2.1 n) s0) ∧ (∀ n q, mv_tn n = some q → va_Z q.1 q.2.1 q.2.2 (X.2.2 n) (fun a => s0.heap.size ≤ a) s0 s0.heap) ∧
  vx_Zq Bundle.tN "UNASSIGNED_STACK" Bundle.steD (fun a => s0.heap.size ≤ a) s0 s0.heap ∧ vx_Zq Bundle.tN "SUPPRESSED_SENTINEL" Bundle.listD (fun a => s0.heap.size ≤ a) s0 s0.heap ∧
  (∀ e e', e < 6 → e' < 6 → e ≠ e' → va_Nc (mv_en e) (mv_en e') s0) ∧ (∀ n, n < 14 → va_AO (mv_cn n) s0 ∨ mv_ao n = false)
theorem mv_cell_is {D : va_G} {l : Launch} {s0 : State} {a0 : Array Value} {X : mv_X} (G : mv_GL D l s0 a0 X) {h : mv_H} {H : Heap} (k : mv_HR D s0 h H) {a : Nat} {c : mv_C} (e : mv_cell X h a = some c) : mv_ro D s0 a c H := by
  unfold mv_cell at e
  split at e
  · next c' hc => cases e; exact mv_is_ro (k.2.2.2 a c hc).2
  · next hc =>
    obtain ⟨h1, h2⟩ := G.2.2.2.1 a c e
    exact mv_ro_eq (k.2.2.1 a h1) h2
theorem mv_gg_at {a a' : Array Value} {s U : State} (hU : s.WarmedH U.vm) {w : Cond} (hg : mv_gg w = true) (h : w.before a s = true) : w.before a' U = true := by
  unfold mv_gg at hg
  rw [Bool.or_eq_true] at hg
  rcases hg with hg | hg
  · exact word_at hU (good_of_word hg) h
  · have h3 : w.onTables = true ∧ w.before a (s.setVm U.vm) = true := by
      cases w <;> first | (exact ⟨rfl, Cond.fieldLinkNest_warmed hU h⟩) | (exact ⟨rfl, Cond.methodLinkNest_warmed hU h⟩) | cases hg
    have h4 : w.before a' (U.setVm U.vm) = true := by
      rw [Cond.onTables_vm (A' := a) (U' := s) U.vm w h3.1]
      exact h3.2
    rwa [State.setVm_self] at h4
theorem mv_word {D : va_G} {l : Launch} {s0 : State} {a0 : Array Value} {X : mv_X} (G : mv_GL D l s0 a0 X) {s : State} (hW : s0.WarmedH s.vm) {w : Cond} {args : Array Value} (hw : w ∈ lw_tbl) (hg : mv_gg w = true) : w.before args s = true :=
  mv_gg_at hW hg (G.2.1 w hw)
