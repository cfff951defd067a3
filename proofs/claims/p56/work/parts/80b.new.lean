/-! NEW CELLS -/
def mz_g (P : mz_P) (a : Nat) (t : Nat ⊕ (FieldType × Nat)) : mz_P := (mv_up P.1 a (some t), mv_up P.2 a fun _ => none)
def mz_k (P : mz_P) (a k r : Nat) : mz_P := (P.1, fun b j => if b = a ∧ j = k then some r else P.2 b j)
theorem mz_g1 {P : mz_P} {a b : Nat} {t : Nat ⊕ (FieldType × Nat)} (h : b ≠ a) : (mz_g P a t).1 b = P.1 b := mv_up_n _ _ h
theorem mz_g2 {P : mz_P} {a b : Nat} {t : Nat ⊕ (FieldType × Nat)} (h : b ≠ a) : (mz_g P a t).2 b = P.2 b := mv_up_n _ _ h
theorem mz_gs {P : mz_P} {a : Nat} {t : Nat ⊕ (FieldType × Nat)} : (mz_g P a t).1 a = some t := mv_up_s _ _ _
theorem mz_k1 {P : mz_P} {a k r b : Nat} : (mz_k P a k r).1 b = P.1 b := rfl
theorem mz_ks {P : mz_P} {a k r : Nat} : (mz_k P a k r).2 a k = some r := if_pos ⟨rfl, rfl⟩
theorem mz_ka {P : mz_P} {a k r b j : Nat} (h : b ≠ a) : (mz_k P a k r).2 b j = P.2 b j := if_neg fun q => h q.1
theorem mz_kk {P : mz_P} {a k r b j : Nat} (h : j ≠ k) : (mz_k P a k r).2 b j = P.2 b j := if_neg fun q => h q.2
section NEW
variable {X : mv_X} {P : mz_P} {V : mz_V} {z : Nat × Nat} {a c n : Nat}
theorem mz_own_g (t : Nat ⊕ (FieldType × Nat)) (C : mv_C) (h : mz_c (mz_g P a t) (mz_w V a fun _ => 0) a t = C) : mv_up (mz_h P V) a (some C) = mz_h (mz_g P a t) (mz_w V a fun _ => 0) := by
  funext b
  by_cases e : b = a
  · subst e
    rw [mv_up_s, mz_own (mz_gs (P := P)), h]
  · rw [mv_up_n _ _ e]
    unfold mz_h
    rw [mz_g1 e]
    cases P.1 b with
    | none => rfl
    | some t =>
      simp only [Option.map_some]
      cases t with
      | inl c2 => simp only [mz_c, mz_g2 (P := P) e, mz_w_n V (a := a) (fun _ => 0) e]
      | inr q => simp only [mz_c, mz_g2 (P := P) e, mz_w_n V (a := a) (fun _ => 0) e]
theorem mz_new {f : Nat → mv_H → Option mv_R} {sl : Nat} (hd : ((mv_df c).mapIdx fun _ v => mz_fv v none 0) = mv_df c) : mv_new (mz_h P V, z) (.inl (c, mv_df c)) sl f = f z.1 (mz_h (mz_g P z.1 (.inl c)) (mz_w V z.1 fun _ => 0), (z.1 + 1, z.2 + sl)) := by
  unfold mv_new
  show f z.1 (mv_up (mz_h P V) z.1 _, _) = _
  rw [mz_own_g (.inl c) _ ?_]
  unfold mz_c
  simp only [mz_w_s]
  have : ∀ k, (mz_g P z.1 (.inl c)).2 z.1 k = none := fun k => congrFun (mv_up_s P.2 z.1 fun _ => none) k
  simp only [this, hd]
theorem mz_newa {f : Nat → mv_H → Option mv_R} {t : FieldType} {v : Value} (hn : n ≤ 65536) (hv : mz_av t none 0 = v) : mv_newa (mz_h P V, z) t v (nZ n) f = f z.1 (mz_h (mz_g P z.1 (.inr (t, n))) (mz_w V z.1 fun _ => 0), (z.1 + 1, z.2 + n)) := by
  have e : (nZ (n : Int)).toInt = n := nZ_i ⟨by omega, by omega⟩
  unfold mv_newa mv_new
  rw [if_pos (by omega), e, Int.toNat_natCast]
  show f z.1 (mv_up (mz_h P V) z.1 _, _) = _
  rw [mz_own_g (.inr (t, n)) _ ?_]
  unfold mz_c
  simp only [mz_w_s]
  have : ∀ k, (mz_g P z.1 (.inr (t, n))).2 z.1 k = none := fun k => congrFun (mv_up_s P.2 z.1 fun _ => none) k
  simp only [this, hv]
theorem mz_pr {f : mv_H → Option mv_R} {k r : Nat} (h : P.1 a = some (.inl c)) (hk : mz_fr c k = true) : mv_pf (mz_h P V, z) a c k (.ref r) f = f (mz_h (mz_k P a k r) V, z) := by
  have hx := mz_fr_ok hk
  have hl : k < (mv_df c).length := (List.getElem?_eq_some_iff.mp hx).1
  unfold mv_pf
  simp only [mz_own h, mz_c, if_true, List.length_mapIdx, if_pos hl]
  congr 2
  funext b
  by_cases e : b = a
  · subst e
    rw [mv_up_s, mz_own (show (mz_k P b k r).1 b = some (.inl c) from h), mz_c]
    congr 3
    refine mz_set_i fun j w hj => ?_
    by_cases e2 : j = k
    · subst e2
      rw [hx] at hj
      cases hj
      simp only [if_true, mz_fv, mz_ks, mz_rf]
    · simp only [if_neg e2, mz_kk e2]
  · rw [mv_up_n _ _ e]
    unfold mz_h
    rw [mz_k1]
    cases P.1 b with
    | none => rfl
    | some t =>
      simp only [Option.map_some]
      cases t with
      | inl c2 => simp only [mz_c, mz_ka e]
      | inr q => simp only [mz_c, mz_ka e]
theorem mz_ar {f : mv_H → Option mv_R} {i b : Nat} (h : P.1 a = some (.inr (.object (mv_cn c), n))) (hb : P.1 b = some (.inl c)) (hi : i < n) (hn : n ≤ 65536) : mv_aa (mz_h P V, z) a (nZ i) b f = f (mz_h (mz_k P a i b) V, z) := by
  have e : (nZ (i : Int)).toInt = i := nZ_i ⟨by omega, by omega⟩
  unfold mv_aa
  simp only [mz_own h, mz_own hb, mz_c, mv_chk, beq_self_eq_true, cond_true]
  rw [if_pos (by omega), e, Int.toNat_natCast]
  congr 2
  funext q
  by_cases eb : q = a
  · subst eb
    rw [mv_up_s, mz_own (show (mz_k P q i b).1 q = some (.inr (.object (mv_cn c), n)) from h), mz_c]
    congr 4
    funext j
    by_cases e4 : j = i
    · subst e4
      rw [mv_up_s, mz_ks]
      rfl
    · rw [mv_up_n _ _ e4, mz_kk e4]
  · rw [mv_up_n _ _ eb]
    unfold mz_h
    rw [mz_k1]
    cases P.1 q with
    | none => rfl
    | some t =>
      simp only [Option.map_some]
      cases t with
      | inl c2 => simp only [mz_c, mz_ka eb]
      | inr u => simp only [mz_c, mz_ka eb]
end NEW
