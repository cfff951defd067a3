/-! ONE STEP GOES ON ONCE: what mv_F does with its rest is one call of it, or none -/
def mv_TL (φ : mv_K → Option mv_R) : Prop := (∃ a b c d, ∀ k, φ k = k a b c d) ∨ ∃ r, ∀ k, φ k = r
theorem mv_TLk (a : Nat) (b c : List Value) (d : mv_H) : mv_TL (fun k => k a b c d) := Or.inl ⟨a, b, c, d, fun _ => rfl⟩
theorem mv_TLc (r : Option mv_R) : mv_TL (fun _ => r) := Or.inr ⟨r, fun _ => rfl⟩
theorem mv_TL_popI {st : List Value} {f : mv_K → Int32 → List Value → Option mv_R} (h : ∀ x r, mv_TL (fun k => f k x r)) : mv_TL (fun k => mv_popI st (f k)) := by
  cases st with
  | nil => exact mv_TLc none
  | cons v r => cases v <;> first | exact h _ _ | exact mv_TLc none
theorem mv_TL_popR {st : List Value} {f : mv_K → Nat → List Value → Option mv_R} (h : ∀ x r, mv_TL (fun k => f k x r)) : mv_TL (fun k => mv_popR st (f k)) := by
  cases st with
  | nil => exact mv_TLc none
  | cons v r => cases v <;> first | exact h _ _ | exact mv_TLc none
theorem mv_TL_popL {st : List Value} {f : mv_K → Int64 → List Value → Option mv_R} (h : ∀ x r, mv_TL (fun k => f k x r)) : mv_TL (fun k => mv_popL st (f k)) := by
  cases st with
  | nil => exact mv_TLc none
  | cons v r => cases v <;> first | exact h _ _ | exact mv_TLc none
theorem mv_TL_popF {st : List Value} {f : mv_K → UInt32 → List Value → Option mv_R} (h : ∀ x r, mv_TL (fun k => f k x r)) : mv_TL (fun k => mv_popF st (f k)) := by
  cases st with
  | nil => exact mv_TLc none
  | cons v r => cases v <;> first | exact h _ _ | exact mv_TLc none
theorem mv_TL_popD {st : List Value} {f : mv_K → UInt64 → List Value → Option mv_R} (h : ∀ x r, mv_TL (fun k => f k x r)) : mv_TL (fun k => mv_popD st (f k)) := by
  cases st with
  | nil => exact mv_TLc none
  | cons v r => cases v <;> first | exact h _ _ | exact mv_TLc none
theorem mv_TL_pop1 {st : List Value} {f : mv_K → Value → List Value → Option mv_R} (h : ∀ x r, mv_TL (fun k => f k x r)) : mv_TL (fun k => mv_pop1 st (f k)) := by
  cases st with
  | nil => exact mv_TLc none
  | cons v r => cases v <;> first | exact h _ _ | exact mv_TLc none
theorem mv_TL_int {v : Value} {f : mv_K → Int32 → Option mv_R} (h : ∀ x, mv_TL (fun k => f k x)) : mv_TL (fun k => mv_int v (f k)) := by
  cases v <;> first | exact h _ | exact mv_TLc none
theorem mv_TL_ref {v : Value} {f : mv_K → Nat → Option mv_R} (h : ∀ x, mv_TL (fun k => f k x)) : mv_TL (fun k => mv_ref v (f k)) := by
  cases v <;> first | exact h _ | exact mv_TLc none
theorem mv_TL_lng {v : Value} {f : mv_K → Int64 → Option mv_R} (h : ∀ x, mv_TL (fun k => f k x)) : mv_TL (fun k => mv_lng v (f k)) := by
  cases v <;> first | exact h _ | exact mv_TLc none
theorem mv_TL_flt {v : Value} {f : mv_K → UInt32 → Option mv_R} (h : ∀ x, mv_TL (fun k => f k x)) : mv_TL (fun k => mv_flt v (f k)) := by
  cases v <;> first | exact h _ | exact mv_TLc none
theorem mv_TL_dbl {v : Value} {f : mv_K → UInt64 → Option mv_R} (h : ∀ x, mv_TL (fun k => f k x)) : mv_TL (fun k => mv_dbl v (f k)) := by
  cases v <;> first | exact h _ | exact mv_TLc none
theorem mv_TL_chk {b : Bool} {f : mv_K → Option mv_R} (h : mv_TL f) : mv_TL (fun k => mv_chk b (f k)) := by
  cases b
  · exact mv_TLc none
  · exact h
theorem mv_TL_ite {P : Prop} {d : Decidable P} {f g : mv_K → Option mv_R} (h : mv_TL f) (h2 : mv_TL g) : mv_TL (fun k => @ite _ P d (f k) (g k)) := by
  cases d with
  | isTrue hp =>
    have e : (fun k => @ite _ P (isTrue hp) (f k) (g k)) = f := funext fun k => if_pos hp
    rw [e]; exact h
  | isFalse hp =>
    have e : (fun k => @ite _ P (isFalse hp) (f k) (g k)) = g := funext fun k => if_neg hp
    rw [e]; exact h2
theorem mv_TL_ld {ls : List Value} {i : Nat} {f : mv_K → Value → Option mv_R} (h : ∀ x, mv_TL (fun k => f k x)) : mv_TL (fun k => mv_ld ls i (f k)) := by
  unfold mv_ld
  cases ls[i]? with
  | none => exact mv_TLc none
  | some v => exact h v
theorem mv_TL_st {w : Bool} {ls : List Value} {i : Nat} {v : Value} {f : mv_K → List Value → Option mv_R} (h : ∀ x, mv_TL (fun k => f k x)) : mv_TL (fun k => mv_st w ls i v (f k)) :=
  mv_TL_chk (mv_TL_chk (h _))
theorem mv_TL_st2 {w : Bool} {ls : List Value} {i : Nat} {v : Value} {f : mv_K → List Value → Option mv_R} (h : ∀ x, mv_TL (fun k => f k x)) : mv_TL (fun k => mv_st2 w ls i v (f k)) :=
  mv_TL_chk (mv_TL_chk (h _))
theorem mv_TL_gf {X : mv_X} {hh : mv_H} {a ci n : Nat} {f : mv_K → Value → Option mv_R} (h : ∀ x, mv_TL (fun k => f k x)) : mv_TL (fun k => mv_gf X hh a ci n (f k)) := by
  unfold mv_gf
  cases mv_cell X hh a with
  | none => exact mv_TLc none
  | some c =>
    cases c with
    | inr q => exact mv_TLc none
    | inl q =>
      obtain ⟨c, fs⟩ := q
      refine mv_TL_ite ?_ (mv_TLc none)
      cases fs[n]? with
      | none => exact mv_TLc none
      | some v => exact h v
theorem mv_TL_gI {X : mv_X} {hh : mv_H} {a ci n : Nat} {f : mv_K → Int32 → Option mv_R} (h : ∀ x, mv_TL (fun k => f k x)) : mv_TL (fun k => mv_gI X hh a ci n (f k)) := mv_TL_gf fun _ => mv_TL_int h
theorem mv_TL_gR {X : mv_X} {hh : mv_H} {a ci n : Nat} {f : mv_K → Nat → Option mv_R} (h : ∀ x, mv_TL (fun k => f k x)) : mv_TL (fun k => mv_gR X hh a ci n (f k)) := mv_TL_gf fun _ => mv_TL_ref h
theorem mv_TL_pf {hh : mv_H} {a ci n : Nat} {v : Value} {f : mv_K → mv_H → Option mv_R} (h : ∀ x, mv_TL (fun k => f k x)) : mv_TL (fun k => mv_pf hh a ci n v (f k)) := by
  unfold mv_pf
  cases hh.1 a with
  | none => exact mv_TLc none
  | some c =>
    cases c with
    | inr q => exact mv_TLc none
    | inl q =>
      obtain ⟨c, fs⟩ := q
      exact mv_TL_ite (mv_TL_ite (h _) (mv_TLc none)) (mv_TLc none)
theorem mv_TL_ar {X : mv_X} {hh : mv_H} {t a : Nat} {i : Int32} {f : mv_K → Value → Option mv_R} (h : ∀ x, mv_TL (fun k => f k x)) : mv_TL (fun k => mv_ar X hh t a i (f k)) := by
  unfold mv_ar
  cases mv_cell X hh a with
  | none => exact mv_TLc none
  | some c =>
    cases c with
    | inl q => exact mv_TLc none
    | inr q =>
      obtain ⟨t, n, g⟩ := q
      exact mv_TL_chk (mv_TL_ite (h _) (mv_TLc none))
theorem mv_TL_aI {X : mv_X} {hh : mv_H} {t a : Nat} {i : Int32} {f : mv_K → Int32 → Option mv_R} (h : ∀ x, mv_TL (fun k => f k x)) : mv_TL (fun k => mv_aI X hh t a i (f k)) := mv_TL_ar fun _ => mv_TL_int h
theorem mv_TL_aR {X : mv_X} {hh : mv_H} {a : Nat} {i : Int32} {f : mv_K → Nat → Option mv_R} (h : ∀ x, mv_TL (fun k => f k x)) : mv_TL (fun k => mv_aR X hh a i (f k)) := mv_TL_ar fun _ => mv_TL_ref h
theorem mv_TL_aL {X : mv_X} {hh : mv_H} {a : Nat} {i : Int32} {f : mv_K → Int64 → Option mv_R} (h : ∀ x, mv_TL (fun k => f k x)) : mv_TL (fun k => mv_aL X hh a i (f k)) := mv_TL_ar fun _ => mv_TL_lng h
theorem mv_TL_aD {X : mv_X} {hh : mv_H} {a : Nat} {i : Int32} {f : mv_K → UInt64 → Option mv_R} (h : ∀ x, mv_TL (fun k => f k x)) : mv_TL (fun k => mv_aD X hh a i (f k)) := mv_TL_ar fun _ => mv_TL_dbl h
theorem mv_TL_len {X : mv_X} {hh : mv_H} {a : Nat} {f : mv_K → Int32 → Option mv_R} (h : ∀ x, mv_TL (fun k => f k x)) : mv_TL (fun k => mv_len X hh a (f k)) := by
  unfold mv_len
  cases mv_cell X hh a with
  | none => exact mv_TLc none
  | some c =>
    cases c with
    | inl q => exact mv_TLc none
    | inr q => exact h _
theorem mv_TL_as {hh : mv_H} {t a : Nat} {i : Int32} {v : Value} {f : mv_K → mv_H → Option mv_R} (h : ∀ x, mv_TL (fun k => f k x)) : mv_TL (fun k => mv_as hh t a i v (f k)) := by
  unfold mv_as
  cases hh.1 a with
  | none => exact mv_TLc none
  | some c =>
    cases c with
    | inl q => exact mv_TLc none
    | inr q =>
      obtain ⟨t, n, g⟩ := q
      exact mv_TL_chk (mv_TL_ite (h _) (mv_TLc none))
theorem mv_TL_aa {hh : mv_H} {a b : Nat} {i : Int32} {f : mv_K → mv_H → Option mv_R} (h : ∀ x, mv_TL (fun k => f k x)) : mv_TL (fun k => mv_aa hh a i b (f k)) := by
  unfold mv_aa
  cases hh.1 b with
  | none => exact mv_TLc none
  | some c =>
    cases c with
    | inr q => exact mv_TLc none
    | inl q =>
      obtain ⟨c, fs⟩ := q
      cases hh.1 a with
      | none => exact mv_TLc none
      | some c2 =>
        cases c2 with
        | inl q => exact mv_TLc none
        | inr q =>
          obtain ⟨t, n, g⟩ := q
          cases t <;> first | exact mv_TLc none | exact mv_TL_chk (mv_TL_ite (h _) (mv_TLc none))
theorem mv_TL_new {hh : mv_H} {c : mv_C} {sl : Nat} {f : mv_K → Nat → mv_H → Option mv_R} (h : ∀ a x, mv_TL (fun k => f k a x)) : mv_TL (fun k => mv_new hh c sl (f k)) := h _ _
theorem mv_TL_newa {hh : mv_H} {t : FieldType} {v : Value} {n : Int32} {f : mv_K → Nat → mv_H → Option mv_R} (h : ∀ a x, mv_TL (fun k => f k a x)) : mv_TL (fun k => mv_newa hh t v n (f k)) :=
  mv_TL_ite (mv_TL_new h) (mv_TLc none)
theorem mv_TL_cpy {X : mv_X} {hh : mv_H} {a0 a1 : Nat} {sp dp n : Int32} {f : mv_K → mv_H → Option mv_R} (h : ∀ x, mv_TL (fun k => f k x)) : mv_TL (fun k => mv_cpy X hh a0 sp a1 dp n (f k)) := by
  unfold mv_cpy
  cases mv_cell X hh a0 with
  | none => exact mv_TLc none
  | some c0 =>
    cases c0 with
    | inl q => exact mv_TLc none
    | inr q0 =>
      cases hh.1 a1 with
      | none => exact mv_TLc none
      | some c1 =>
        cases c1 with
        | inl q => exact mv_TLc none
        | inr q1 => exact mv_TL_chk (mv_TL_ite (mv_TL_ite (mv_TL_chk (h _)) (mv_TLc none)) (mv_TLc none))
theorem mv_TL_cln {hh : mv_H} {a : Nat} {f : mv_K → Nat → mv_H → Option mv_R} (h : ∀ a x, mv_TL (fun k => f k a x)) : mv_TL (fun k => mv_cln hh a (f k)) := by
  unfold mv_cln
  split
  · exact mv_TL_new h
  · exact mv_TLc none
theorem mv_TL_isB {hh : mv_H} {a : Nat} {f : mv_K → Option mv_R} (h : mv_TL f) : mv_TL (fun k => mv_isB hh a (f k)) := by
  unfold mv_isB
  split
  · exact h
  · exact mv_TLc none
theorem mv_TL_cl {call : mv_G} {y : Nat} {as : List Value} {hh : mv_H} {g : mv_K → Nat → Nat → mv_H → Option mv_R} {f : mv_K → Option Value → mv_H → Option mv_R} (hg : ∀ e q x, mv_TL (fun k => g k e q x)) (h : ∀ v x, mv_TL (fun k => f k v x)) : mv_TL (fun k => mv_cl call y as hh (g k) (f k)) := by
  unfold mv_cl
  cases call y as hh with
  | none => exact mv_TLc none
  | some r =>
    obtain ⟨o, h'⟩ := r
    cases o with
    | inl v => exact h v h'
    | inr q => exact hg _ _ _
theorem mv_TL_cal {rk : Nat} {call : mv_G} {y : Nat} {as : List Value} {hh : mv_H} {g : mv_K → Nat → Nat → mv_H → Option mv_R} {f : mv_K → List Value → mv_H → Option mv_R} (hg : ∀ e q x, mv_TL (fun k => g k e q x)) (h : ∀ v x, mv_TL (fun k => f k v x)) : mv_TL (fun k => mv_cal rk call y as hh (g k) (f k)) := by
  unfold mv_cal
  split
  · refine mv_TL_cl hg fun v x => ?_
    cases v with
    | none => exact h _ _
    | some v => exact mv_TLc none
  · refine mv_TL_cl hg fun v x => ?_
    cases v with
    | none => exact mv_TLc none
    | some v => cases v <;> first | exact mv_TLc none | exact h _ _
  · refine mv_TL_cl hg fun v x => ?_
    cases v with
    | none => exact mv_TLc none
    | some v => cases v <;> first | exact mv_TLc none | exact h _ _
  · refine mv_TL_cl hg fun v x => ?_
    cases v with
    | none => exact mv_TLc none
    | some v => cases v <;> first | exact mv_TLc none | exact h _ _
  · refine mv_TL_cl hg fun v x => ?_
    cases v with
    | none => exact mv_TLc none
    | some v => cases v <;> first | exact mv_TLc none | exact h _ _
  · refine mv_TL_cl hg fun v x => ?_
    cases v with
    | none => exact mv_TLc none
    | some v => cases v <;> first | exact mv_TLc none | exact h _ _
  · exact mv_TLc none
theorem mv_TL_thr {hs : List (Nat × Nat × Nat × Nat × Nat)} {pc : Nat} {ls : List Value} (e q : Nat) (x : mv_H) : mv_TL (fun k => mv_thr hs pc ls k e q x) := by
  cases hs with
  | nil => exact mv_TLc _
  | cons z r =>
    show mv_TL (fun k => match mv_hs (z :: r) pc e with
      | some t => k t.1 (ls.set t.2 (.retAddr 0)) [] x
      | none => mv_raise e q x)
    cases mv_hs (z :: r) pc e with
    | none => exact mv_TLc _
    | some t => exact mv_TLk _ _ _ _
theorem mv_TL_args {st : List Value} {n : Nat} {f : mv_K → List Value → List Value → Option mv_R} (h : ∀ a b, mv_TL (fun k => f k a b)) : mv_TL (fun k => mv_args st n (f k)) := mv_TL_chk (h _ _)
theorem mv_TL_rcv {X : mv_X} {hh : mv_H} {as : List Value} {c : Nat} {f : mv_K → Option mv_R} (h : mv_TL f) : mv_TL (fun k => mv_rcv X hh as c (f k)) := by
  unfold mv_rcv
  cases as with
  | nil => exact mv_TLc none
  | cons v r =>
    cases v with
    | ref a =>
      show mv_TL (fun k => match mv_cell X hh a with
        | some (.inl (c', _)) => if c' = c then f k else none
        | _ => none)
      cases mv_cell X hh a with
      | none => exact mv_TLc none
      | some q =>
        cases q with
        | inr q => exact mv_TLc none
        | inl q => exact mv_TL_ite h (mv_TLc none)
    | _ => exact mv_TLc none
theorem mv_TL_isr {as : List Value} {f : mv_K → Option mv_R} (h : mv_TL f) : mv_TL (fun k => mv_isr as (f k)) := by
  unfold mv_isr
  cases as with
  | nil => exact mv_TLc none
  | cons v r => cases v <;> first | exact h | exact mv_TLc none
theorem mv_TL_lk {M : mv_M} {i : Nat} {f : mv_K → mv_L → Option mv_R} (h : ∀ q, mv_TL (fun k => f k q)) : mv_TL (fun k => mv_lk M i (f k)) := by
  unfold mv_lk
  cases mv_look M.2.2.2.2.1 16 i with
  | none => exact mv_TLc none
  | some q => exact h q
theorem mv_TL_sw {x : Int32} {t : Nat} {f : mv_K → Nat → Option mv_R} (h : ∀ q, mv_TL (fun k => f k q)) : ∀ sw, mv_TL (fun k => mv_sw x t (f k) sw)
  | [] => h t
  | q :: r => mv_TL_ite (h q.2) (mv_TL_sw h r)
theorem mv_TL_icmp {c : ClassFile.Cond} {x y : Int32} {f g : mv_K → Option mv_R} (h : mv_TL f) (h2 : mv_TL g) : mv_TL (fun k => mv_icmp c x y (f k) (g k)) := by
  cases c <;> first | exact mv_TL_ite h h2 | exact mv_TL_ite h2 h
theorem mv_TL_inv {X : mv_X} {call : mv_G} {M : mv_M} {pc : Nat} {ls st : List Value} {hh : mv_H} {tag y n c rk : Nat} : mv_TL (fun k => mv_inv X call M k pc ls st hh tag y n c rk) := by
  unfold mv_inv
  split
  · exact mv_TL_args fun _ _ => mv_TL_rcv (mv_TL_cal mv_TL_thr fun _ _ => mv_TLk _ _ _ _)
  · exact mv_TL_args fun _ _ => mv_TL_rcv (mv_TL_cal mv_TL_thr fun _ _ => mv_TLk _ _ _ _)
  · exact mv_TL_args fun _ _ => mv_TL_cal mv_TL_thr fun _ _ => mv_TLk _ _ _ _
  · exact mv_TL_args fun _ _ => mv_TL_isr (mv_TL_cal mv_TL_thr fun _ _ => mv_TLk _ _ _ _)
  · refine mv_TL_args fun a b => ?_
    split
    · exact mv_TLk _ _ _ _
    · exact mv_TLc none
  · refine mv_TL_args fun a b => ?_
    split
    · exact mv_TL_cpy fun _ => mv_TLk _ _ _ _
    · exact mv_TLc none
  · refine mv_TL_args fun a b => ?_
    split
    · exact mv_TL_cln fun _ _ => mv_TLk _ _ _ _
    · exact mv_TLc none
  · exact mv_TLc none
set_option maxHeartbeats 4000000 in
theorem mv_TL_F (X : mv_X) (call : mv_G) (M : mv_M) (pc : Nat) (ls st : List Value) (h : mv_H) : mv_TL (fun k => mv_F X call M k pc ls st h) := by
  unfold mv_F
  cases mv_look M.2.2.2.1 32 pc with
  | none => exact mv_TLc none
  | some q =>
    obtain ⟨i, t, sw⟩ := q
    show mv_TL (fun k => mv_E X call M k i t sw pc ls st h)
    unfold mv_E
    cases i
    all_goals first
      | exact mv_TLc none
      | exact mv_TLk _ _ _ _
      | exact mv_TL_lk fun _ => mv_TL_inv
      | exact mv_TL_ld fun _ => mv_TL_int fun _ => mv_TLk _ _ _ _
      | exact mv_TL_ld fun _ => mv_TL_ref fun _ => mv_TLk _ _ _ _
      | exact mv_TL_ld fun _ => mv_TL_flt fun _ => mv_TLk _ _ _ _
      | exact mv_TL_ld fun _ => mv_TL_dbl fun _ => mv_TLk _ _ _ _
      | exact mv_TL_ld fun _ => mv_TL_lng fun _ => mv_TLk _ _ _ _
      | exact mv_TL_popL fun _ _ => mv_TL_st2 fun _ => mv_TLk _ _ _ _
      | exact mv_TL_popF fun _ _ => mv_TLk _ _ _ _
      | exact mv_TL_popR fun _ _ => mv_TLk _ _ _ _
      | exact mv_TL_popL fun _ _ => mv_TLc _
      | exact mv_TL_popR fun _ _ => mv_TL_lk fun _ => mv_TL_chk (mv_TL_isB (mv_TLk _ _ _ _))
      | exact mv_TL_ld fun _ => mv_TL_int fun _ => mv_TL_st fun _ => mv_TLk _ _ _ _
      | exact mv_TL_popI fun _ _ => mv_TL_st fun _ => mv_TLk _ _ _ _
      | exact mv_TL_popR fun _ _ => mv_TL_st fun _ => mv_TLk _ _ _ _
      | exact mv_TL_popF fun _ _ => mv_TL_st fun _ => mv_TLk _ _ _ _
      | exact mv_TL_popD fun _ _ => mv_TL_st2 fun _ => mv_TLk _ _ _ _
      | exact mv_TL_popI fun _ _ => mv_TL_popI fun _ _ => mv_TLk _ _ _ _
      | exact mv_TL_popI fun _ _ => mv_TL_popI fun _ _ => mv_TL_ite (mv_TLc none) (mv_TLk _ _ _ _)
      | exact mv_TL_popI fun _ _ => mv_TLk _ _ _ _
      | exact mv_TL_popL fun _ _ => mv_TL_popL fun _ _ => mv_TLk _ _ _ _
      | exact mv_TL_popD fun _ _ => mv_TL_popD fun _ _ => mv_TLk _ _ _ _
      | exact mv_TL_popF fun _ _ => mv_TL_popF fun _ _ => mv_TLk _ _ _ _
      | exact mv_TL_popD fun _ _ => mv_TL_popD fun _ _ => mv_TL_chk (mv_TLk _ _ _ _)
      | exact mv_TL_popF fun _ _ => mv_TL_popF fun _ _ => mv_TL_chk (mv_TLk _ _ _ _)
      | exact mv_TL_popF fun _ _ => mv_TL_chk (mv_TLk _ _ _ _)
      | exact mv_TL_pop1 fun _ _ => mv_TLk _ _ _ _
      | exact mv_TL_pop1 fun _ _ => mv_TL_pop1 fun _ _ => mv_TLk _ _ _ _
      | exact mv_TL_popI fun _ _ => mv_TL_icmp (mv_TLk _ _ _ _) (mv_TLk _ _ _ _)
      | exact mv_TL_popI fun _ _ => mv_TL_popI fun _ _ => mv_TL_icmp (mv_TLk _ _ _ _) (mv_TLk _ _ _ _)
      | exact mv_TL_popI fun _ _ => mv_TL_sw (fun _ => mv_TLk _ _ _ _) _
      | exact mv_TL_popI fun _ _ => mv_TL_popR fun _ _ => mv_TL_aI fun _ => mv_TLk _ _ _ _
      | exact mv_TL_popI fun _ _ => mv_TL_popR fun _ _ => mv_TL_aR fun _ => mv_TLk _ _ _ _
      | exact mv_TL_popI fun _ _ => mv_TL_popR fun _ _ => mv_TL_aL fun _ => mv_TLk _ _ _ _
      | exact mv_TL_popI fun _ _ => mv_TL_popR fun _ _ => mv_TL_aD fun _ => mv_TLk _ _ _ _
      | exact mv_TL_popI fun _ _ => mv_TL_popI fun _ _ => mv_TL_popR fun _ _ => mv_TL_as fun _ => mv_TLk _ _ _ _
      | exact mv_TL_popL fun _ _ => mv_TL_popI fun _ _ => mv_TL_popR fun _ _ => mv_TL_as fun _ => mv_TLk _ _ _ _
      | exact mv_TL_popD fun _ _ => mv_TL_popI fun _ _ => mv_TL_popR fun _ _ => mv_TL_as fun _ => mv_TLk _ _ _ _
      | exact mv_TL_popR fun _ _ => mv_TL_popI fun _ _ => mv_TL_popR fun _ _ => mv_TL_aa fun _ => mv_TLk _ _ _ _
      | exact mv_TL_popR fun _ _ => mv_TL_len fun _ => mv_TLk _ _ _ _
      | exact mv_TL_popI fun _ _ => mv_TL_newa fun _ _ => mv_TLk _ _ _ _
      | exact mv_TL_popI fun _ _ => mv_TL_lk fun _ => mv_TL_chk (mv_TL_newa fun _ _ => mv_TLk _ _ _ _)
      | exact mv_TL_popI fun _ _ => mv_TLc _
      | exact mv_TL_popR fun _ _ => mv_TLc _
      | exact mv_TL_popF fun _ _ => mv_TLc _
      | exact mv_TL_popD fun _ _ => mv_TLc _
      | exact mv_TLc _
      | exact mv_TL_lk fun _ => mv_TL_chk (mv_TLk _ _ _ _)
      | (cases sw with
          | cons q r => exact mv_TLk _ _ _ _
          | nil =>
            refine mv_TL_lk fun q => ?_
            split
            · exact mv_TLk _ _ _ _
            · exact mv_TLk _ _ _ _
            · exact mv_TLc none)
      | (refine mv_TL_lk fun q => ?_
         split
         · exact mv_TLk _ _ _ _
         · exact mv_TLk _ _ _ _
         · exact mv_TLc none)
      | (refine mv_TL_popR fun _ _ => mv_TL_lk fun q => mv_TL_chk ?_
         split
         · exact mv_TL_gR fun _ => mv_TLk _ _ _ _
         · exact mv_TL_gI fun _ => mv_TLk _ _ _ _)
      | (refine mv_TL_lk fun q => mv_TL_chk ?_
         split
         · exact mv_TL_popR fun _ _ => mv_TL_popR fun _ _ => mv_TL_pf fun _ => mv_TLk _ _ _ _
         · exact mv_TL_popI fun _ _ => mv_TL_popR fun _ _ => mv_TL_chk (mv_TL_pf fun _ => mv_TLk _ _ _ _))
      | (refine mv_TL_lk fun q => mv_TL_chk ?_
         split
         · exact mv_TL_ref fun _ => mv_TLk _ _ _ _
         · exact mv_TL_chk (mv_TLk _ _ _ _)
         · exact mv_TL_int fun _ => mv_TLk _ _ _ _)
      | (refine mv_TL_lk fun q => ?_
         split
         · exact mv_TL_new fun _ _ => mv_TLk _ _ _ _
         · exact mv_TLc _
         · exact mv_TLc none)
/-- n steps at most -/
def mv_fu (X : mv_X) (call : mv_G) (M : mv_M) : Nat → mv_K
  | 0 => fun _ _ _ _ => none
  | n + 1 => mv_F X call M (mv_fu X call M n)
theorem mv_fu_up {X : mv_X} {call : mv_G} {M : mv_M} : ∀ {n m : Nat} {pc : Nat} {ls st : List Value} {h : mv_H} {r : mv_R}, mv_fu X call M n pc ls st h = some r → n ≤ m → mv_fu X call M m pc ls st h = some r := by
  intro n
  induction n with
  | zero => intro m pc ls st h r e; cases e
  | succ n ih =>
    intro m pc ls st h r e hm
    obtain ⟨m, rfl⟩ : ∃ k, m = k + 1 := ⟨m - 1, by omega⟩
    show mv_F X call M (mv_fu X call M m) pc ls st h = some r
    have e : mv_F X call M (mv_fu X call M n) pc ls st h = some r := e
    rcases mv_TL_F X call M pc ls st h with ⟨a, b, c, d, q⟩ | ⟨z, q⟩
    · have q1 := q (mv_fu X call M n)
      have q2 := q (mv_fu X call M m)
      simp only at q1 q2
      rw [q2]; rw [q1] at e
      exact ih e (by omega)
    · have q1 := q (mv_fu X call M n)
      have q2 := q (mv_fu X call M m)
      simp only at q1 q2
      rw [q2, ← q1]; exact e
/-- to the end, if there is one -/
noncomputable def mv_run (X : mv_X) (call : mv_G) (M : mv_M) : mv_K := fun pc ls st h =>
  @dite (Option mv_R) (∃ r, ∃ n, mv_fu X call M n pc ls st h = some r) (Classical.propDecidable _) (fun q => some q.choose) (fun _ => none)
theorem mv_run_iff {X : mv_X} {call : mv_G} {M : mv_M} {pc : Nat} {ls st : List Value} {h : mv_H} {r : mv_R} : mv_run X call M pc ls st h = some r ↔ ∃ n, mv_fu X call M n pc ls st h = some r := by
  unfold mv_run
  constructor
  · intro e
    split at e
    · next q =>
      cases e
      exact q.choose_spec
    · cases e
  · rintro ⟨n, e⟩
    have q : ∃ r, ∃ n, mv_fu X call M n pc ls st h = some r := ⟨r, n, e⟩
    rw [dif_pos q]
    obtain ⟨n', e'⟩ := q.choose_spec
    have a := mv_fu_up e (Nat.le_max_left n n')
    have b := mv_fu_up e' (Nat.le_max_right n n')
    rw [a] at b
    exact b.symm
theorem mv_run_eq (X : mv_X) (call : mv_G) (M : mv_M) (pc : Nat) (ls st : List Value) (h : mv_H) : mv_run X call M pc ls st h = mv_F X call M (mv_run X call M) pc ls st h := by
  have key : ∀ r, mv_run X call M pc ls st h = some r ↔ mv_F X call M (mv_run X call M) pc ls st h = some r := by
    intro r
    rw [mv_run_iff]
    rcases mv_TL_F X call M pc ls st h with ⟨a, b, c, d, q⟩ | ⟨z, q⟩
    · have q1 := q (mv_run X call M)
      simp only at q1
      rw [q1, mv_run_iff]
      constructor
      · rintro ⟨n, e⟩
        cases n with
        | zero => cases e
        | succ n =>
          have e : mv_F X call M (mv_fu X call M n) pc ls st h = some r := e
          have q2 := q (mv_fu X call M n)
          simp only at q2
          rw [q2] at e
          exact ⟨n, e⟩
      · rintro ⟨n, e⟩
        refine ⟨n + 1, ?_⟩
        show mv_F X call M (mv_fu X call M n) pc ls st h = some r
        have q2 := q (mv_fu X call M n)
        simp only at q2
        rw [q2]
        exact e
    · have q1 := q (mv_run X call M)
      simp only at q1
      rw [q1]
      constructor
      · rintro ⟨n, e⟩
        cases n with
        | zero => cases e
        | succ n =>
          have e : mv_F X call M (mv_fu X call M n) pc ls st h = some r := e
          have q2 := q (mv_fu X call M n)
          simp only at q2
          rw [q2] at e
          exact e
      · intro e
        refine ⟨1, ?_⟩
        show mv_F X call M (mv_fu X call M 0) pc ls st h = some r
        have q2 := q (mv_fu X call M 0)
        simp only at q2
        rw [q2]
        exact e
  cases e1 : mv_run X call M pc ls st h with
  | some r => exact ((key r).mp e1).symm
  | none =>
    cases e2 : mv_F X call M (mv_run X call M) pc ls st h with
    | none => rfl
    | some r =>
      have := (key r).mpr e2
      rw [e1] at this
      cases this
/-- method y, called at depth d -/
noncomputable def mv_call (X : mv_X) : Nat → mv_G
  | 0 => fun _ _ _ => none
  | d + 1 => fun y as h => match mv_look mv_tab 16 y with
    | some M => mv_chk (Nat.ble as.length M.1) (mv_run X (mv_call X d) M 0 (as ++ List.replicate (M.1 - as.length) (.retAddr 0)) [] h)
    | none => none
