/-! TANGLES: inversions of the tops, counted by pairs and by merging -/
def ml_c (x : Int) : List Int → Int
  | [] => 0
  | y :: l => (if y < x then 1 else 0) + ml_c x l
def ml_i : List Int → Int
  | [] => 0
  | x :: l => ml_c x l + ml_i l
def ml_x : List Int → List Int → Int
  | [], _ => 0
  | x :: l, r => ml_c x r + ml_x l r
theorem ml_c_app (x : Int) : ∀ l r : List Int, ml_c x (l ++ r) = ml_c x l + ml_c x r
  | [], r => by show ml_c x r = 0 + ml_c x r; omega
  | y :: l, r => by
    have := ml_c_app x l r
    show (if y < x then 1 else 0) + ml_c x (l ++ r) = (if y < x then 1 else 0) + ml_c x l + ml_c x r
    omega
theorem ml_i_app : ∀ l r : List Int, ml_i (l ++ r) = ml_i l + ml_i r + ml_x l r
  | [], r => by show ml_i r = 0 + ml_i r + 0; omega
  | y :: l, r => by
    have := ml_i_app l r
    show ml_c y (l ++ r) + ml_i (l ++ r) = ml_c y l + ml_i l + ml_i r + (ml_c y r + ml_x l r)
    rw [ml_c_app]
    omega
theorem ml_c_perm (x : Int) {l r : List Int} (h : l.Perm r) : ml_c x l = ml_c x r := by
  induction h with
  | nil => rfl
  | cons y _ ih => show (if y < x then 1 else 0) + _ = (if y < x then 1 else 0) + _; rw [ih]
  | swap y z l =>
    show (if z < x then 1 else 0) + ((if y < x then 1 else 0) + ml_c x l) = (if y < x then 1 else 0) + ((if z < x then 1 else 0) + ml_c x l)
    omega
  | trans _ _ h1 h2 => exact h1.trans h2
theorem ml_x_r {r r' : List Int} (h : r.Perm r') : ∀ l : List Int, ml_x l r = ml_x l r'
  | [] => rfl
  | y :: l => by
    show ml_c y r + ml_x l r = ml_c y r' + ml_x l r'
    rw [ml_c_perm y h, ml_x_r h l]
theorem ml_x_l {l l' : List Int} (h : l.Perm l') (r : List Int) : ml_x l r = ml_x l' r := by
  induction h with
  | nil => rfl
  | cons y _ ih => show ml_c y r + _ = ml_c y r + _; rw [ih]
  | swap y z l =>
    show ml_c z r + (ml_c y r + ml_x l r) = ml_c y r + (ml_c z r + ml_x l r)
    omega
  | trans _ _ h1 h2 => exact h1.trans h2
theorem ml_c_0 {x : Int} : ∀ {l : List Int}, (∀ y, y ∈ l → x ≤ y) → ml_c x l = 0
  | [], _ => rfl
  | y :: l, h => by
    have h1 := ml_c_0 (x := x) (l := l) fun q hq => h q (List.mem_cons_of_mem _ hq)
    have h2 := h y List.mem_cons_self
    show (if y < x then 1 else 0) + ml_c x l = 0
    rw [if_neg (by omega), h1]
    rfl
/-- the right's head before all of the left -/
theorem ml_x_h {b : Int} {r : List Int} : ∀ {l : List Int}, (∀ y, y ∈ l → b < y) → ml_x l (b :: r) = l.length + ml_x l r
  | [], _ => rfl
  | y :: l, h => by
    have h1 := ml_x_h (b := b) (r := r) (l := l) fun q hq => h q (List.mem_cons_of_mem _ hq)
    have h2 := h y List.mem_cons_self
    show (if b < y then 1 else 0) + ml_c y r + ml_x l (b :: r) = ((l.length + 1 : Nat) : Int) + (ml_c y r + ml_x l r)
    rw [if_pos h2, h1]
    omega
theorem ml_x_n : ∀ l : List Int, ml_x l [] = 0
  | [] => rfl
  | y :: l => by show 0 + ml_x l [] = 0; rw [ml_x_n l]; rfl
/-- a stretch of an array -/
def sg (f : Nat → Int) (p : Nat) : Nat → List Int
  | 0 => []
  | n + 1 => f p :: sg f (p + 1) n
theorem sg_c {f g : Nat → Int} : ∀ {n p : Nat}, (∀ q, p ≤ q → q < p + n → f q = g q) → sg f p n = sg g p n
  | 0, _, _ => rfl
  | n + 1, p, h => by
    show f p :: sg f (p + 1) n = g p :: sg g (p + 1) n
    rw [h p (by omega) (by omega), sg_c (n := n) (p := p + 1) fun q h1 h2 => h q (by omega) (by omega)]
theorem sg_l {f : Nat → Int} : ∀ {n p : Nat}, (sg f p n).length = n
  | 0, _ => rfl
  | n + 1, p => by show (sg f (p + 1) n).length + 1 = n + 1; rw [sg_l]
theorem sg_app (f : Nat → Int) : ∀ (n p k : Nat), sg f p (n + k) = sg f p n ++ sg f (p + n) k
  | 0, p, k => by rw [Nat.zero_add]; rfl
  | n + 1, p, k => by
    have := sg_app f n (p + 1) k
    rw [show n + 1 + k = (n + k) + 1 by omega]
    show f p :: sg f (p + 1) (n + k) = f p :: (sg f (p + 1) n ++ sg f (p + (n + 1)) k)
    rw [this, show p + 1 + n = p + (n + 1) by omega]
theorem sg_m {f : Nat → Int} {y : Int} : ∀ {n p : Nat}, y ∈ sg f p n → ∃ q, p ≤ q ∧ q < p + n ∧ f q = y
  | 0, _, h => absurd h List.not_mem_nil
  | n + 1, p, h => by
    rcases List.mem_cons.mp h with e | e
    · exact ⟨p, by omega, by omega, e.symm⟩
    · obtain ⟨q, q1, q2, q3⟩ := sg_m e
      exact ⟨q, by omega, by omega, q3⟩
theorem sg_i {f : Nat → Int} : ∀ {n p q : Nat}, p ≤ q → q < p + n → f q ∈ sg f p n
  | 0, _, _, h1, h2 => by omega
  | n + 1, p, q, h1, h2 => by
    by_cases e : q = p
    · subst e; exact List.mem_cons_self
    · exact List.mem_cons_of_mem _ (sg_i (n := n) (p := p + 1) (by omega) (by omega))
/-- tops of those moored, from berth i on -/
def ml_t (s : Nat → Int) (i : Nat) : Nat → List Int
  | 0 => []
  | n + 1 => if s (6 + 11 * i) = 1 then mr_top s i :: ml_t s (i + 1) n else ml_t s (i + 1) n
theorem ml_t_len (s : Nat → Int) : ∀ n i, (ml_t s i n).length ≤ n
  | 0, _ => Nat.le_refl 0
  | n + 1, i => by
    have := ml_t_len s n (i + 1)
    show (if s (6 + 11 * i) = 1 then mr_top s i :: ml_t s (i + 1) n else ml_t s (i + 1) n).length ≤ n + 1
    split
    · rw [List.length_cons]; omega
    · omega
theorem mr_top_in {s : Nat → Int} (hI : mr_I s) {b : Nat} (hb : b < 10) : -360 ≤ mr_top s b ∧ mr_top s b ≤ 450 := by
  have h0 := mr_ho0 hI hb 0
  have h1 := mr_ho1 hI hb 0
  have h2 := hI.hour
  have hw := hI.wind (i := (s 0 % 24).toNat) (by omega)
  unfold mr_top
  generalize mr_ho s b 0 = y at *
  generalize s (116 + (s 0 % 24).toNat) = u at *
  have a1 : y * u ≤ y * 9 := Int.mul_le_mul_of_nonneg_left hw.2 h0
  have a2 : y * (-9) ≤ y * u := Int.mul_le_mul_of_nonneg_left hw.1 h0
  omega
theorem ml_t_in {s : Nat → Int} (hI : mr_I s) : ∀ n i, i + n ≤ 10 → ∀ y, y ∈ ml_t s i n → -360 ≤ y ∧ y ≤ 450
  | 0, _, _, y, h => absurd h List.not_mem_nil
  | n + 1, i, hi, y, h => by
    have h : y ∈ (if s (6 + 11 * i) = 1 then mr_top s i :: ml_t s (i + 1) n else ml_t s (i + 1) n) := h
    split at h
    · rcases List.mem_cons.mp h with e | e
      · rw [e]; exact mr_top_in hI (by omega)
      · exact ml_t_in hI n (i + 1) (by omega) y e
    · exact ml_t_in hI n (i + 1) (by omega) y h
def mq_tgl (s : Nat → Int) : Int := ml_i (ml_t s 0 10)
section TGL
variable {X : mv_X} {P : mz_P} {V : mz_V} {z : Nat × Nat} {x v n d m : Nat} {s : Nat → Int}
theorem mX_P.tp (h : mX_P P x v n) : P.1 (x + 369) = some (.inl 11) ∧ P.2 (x + 369) 0 = some (x + 370) ∧ P.1 (x + 370) = some (.inr (.int, 10)) ∧ P.2 (x + 369) 1 = some (x + 371) ∧ P.1 (x + 371) = some (.inr (.int, 10)) := h.2.2.2.2.2.2.1
theorem X7_collect (hP : mX_P P x v n) (hI : mr_I s) (h : mh_R V (x + 1) s) : ∃ f : Nat → Int, sg f 0 (ml_t s 0 10).length = ml_t s 0 10 ∧ mv_call X (d + 4) 78 [.ref (x + 369), .ref (x + 1)] (mz_h P V, z) = some (.inl (some (.int (nZ (ml_t s 0 10).length))), (mz_h P (mz_w V (x + 370) f), z)) := by
  obtain ⟨t1, t2, t3, t4, t5⟩ := hP.tp
  have key : ∀ k i : Nat, i + k = 10 → ∀ (f : Nat → Int) (c : Nat), c ≤ i → ∃ f' : Nat → Int, (∀ q, q < c → f' q = f q) ∧ sg f' c (ml_t s i k).length = ml_t s i k ∧ mv_run X (mv_call X (d + 3)) m_X7_collect 4 [.ref (x + 369), .ref (x + 1), .int (nZ c), .int (nZ i)] [] (mz_h P (mz_w V (x + 370) f), z) = some (.inl (some (.int (nZ (c + (ml_t s i k).length : Nat)))), (mz_h P (mz_w V (x + 370) f'), z)) := by
    intro k
    induction k with
    | zero =>
      intro i hi f c hc
      have : i = 10 := by omega
      subst this
      exact ⟨f, fun _ _ => rfl, rfl, by rw [bk_X7_collect_4, if_pos (by exact Int32.le_refl _)]; rfl⟩
    | succ k ih =>
      intro i hi f c hc
      have hR : mh_R (mz_w V (x + 370) f) (x + 1) s := mh_R_f hI.pil.2 (fun r ra rb => mz_w_n _ _ (by omega)) h
      rw [bk_X7_collect_4, if_neg (by rw [nZ_le (by decide) ⟨by omega, by omega⟩]; omega), mz_rcv hP.h0.1]
      simp only [mv_clI, mv_cl, Y3_has hP.h0 hI hR (x := (i : Int)) ⟨by omega, by omega⟩, mr_has_n (show i < 10 by omega), nZ_b1]
      by_cases c1 : s (6 + 11 * i) = 1
      · rw [if_neg (fun q => q c1), mz_gR t1 (by decide) t2, mz_rcv hP.h0.1]
        simp only [X3_topOf hP.h0 (hR.HI hI) (show i < 10 by omega), mh_top_eq hR hI (show i < 10 by omega) c1]
        rw [mz_sJ t3 (by omega) (by omega) (by decide), mz_w_s, mz_w_w, nZ_add, nZ_add, Int.toNat_natCast]
        obtain ⟨f', q1, q2, q3⟩ := ih (i + 1) (by omega) (mr_up f c (mr_top s i)) (c + 1) (by omega)
        rw [nc1, nc1] at q3
        have e : ml_t s i (k + 1) = mr_top s i :: ml_t s (i + 1) k := if_pos c1
        refine ⟨f', fun q hq => (q1 q (by omega)).trans (mr_up_n _ _ (by omega)), ?_, ?_⟩
        · rw [e, List.length_cons]
          show f' c :: sg f' (c + 1) _ = _
          rw [q2, q1 c (by omega), mr_up_s]
        · rw [q3, e, List.length_cons, show c + 1 + (ml_t s (i + 1) k).length = c + ((ml_t s (i + 1) k).length + 1) by omega]
      · rw [if_pos c1, nZ_add]
        obtain ⟨f', q1, q2, q3⟩ := ih (i + 1) (by omega) f c (by omega)
        rw [nc1] at q3
        have e : ml_t s i (k + 1) = ml_t s (i + 1) k := if_neg c1
        rw [e]
        exact ⟨f', q1, q2, q3⟩
  obtain ⟨f', q1, q2, q3⟩ := key 10 0 (by decide) (V (x + 370)) 0 (by decide)
  refine ⟨f', q2, ?_⟩
  rw [mz_w_id, Nat.zero_add] at q3
  rw [mc_X7_collect, bk_X7_collect_0]
  exact q3
theorem X7_pairs (hP : mX_P P x v n) (hI : mr_I s) (h : mh_R V (x + 1) s) : ∃ f : Nat → Int, mv_call X (d + 5) 79 [.ref (x + 369), .ref (x + 1)] (mz_h P V, z) = some (.inl (some (.int (nZ (mq_tgl s)))), (mz_h P (mz_w V (x + 370) f), z)) := by
  obtain ⟨t1, t2, t3, t4, t5⟩ := hP.tp
  obtain ⟨f, q1, q2⟩ := X7_collect (X := X) (z := z) (d := d) hP hI h
  obtain ⟨l, hl⟩ : ∃ l, l = ml_t s 0 10 := ⟨_, rfl⟩
  have hl10 : l.length ≤ 10 := by rw [hl]; exact ml_t_len s 10 0
  have hin := ml_t_in hI 10 0 (by decide)
  rw [← hl] at q1 q2 hin
  refine ⟨f, ?_⟩
  rw [mc_X7_tangledByPairs, bk_X7_tangledByPairs_0, mz_rcv t1]
  simp only [mv_clI, mv_cl, q2]
  have hf : ∀ q, q < l.length → -360 ≤ f q ∧ f q ≤ 450 := fun q hq => hin _ (by rw [← q1]; exact sg_i (by omega) (by omega))
  have inner : ∀ k2 j : Nat, j + k2 = l.length → ∀ i, i < j → ∀ t : Int, mv_run X (mv_call X (d + 4)) m_X7_tangledByPairs 23 [.ref (x + 369), .ref (x + 1), .int (nZ l.length), .int (nZ t), .int (nZ i), .int (nZ j)] [] (mz_h P (mz_w V (x + 370) f), z) = mv_run X (mv_call X (d + 4)) m_X7_tangledByPairs 11 [.ref (x + 369), .ref (x + 1), .int (nZ l.length), .int (nZ (t + ml_c (f i) (sg f j k2))), .int (nZ ((i : Int) + 1)), .int (nZ l.length)] [] (mz_h P (mz_w V (x + 370) f), z) := by
    intro k2
    induction k2 with
    | zero =>
      intro j hj i hij t
      have : j = l.length := by omega
      subst this
      rw [bk_X7_tangledByPairs_23, if_pos (by exact Int32.le_refl _), nZ_add, show ml_c (f i) (sg f l.length 0) = 0 from rfl, Int.add_zero]
    | succ k2 ih =>
      intro j hj i hij t
      have ih := fun t => ih (j + 1) (by omega) i (by omega) t
      rw [nc1] at ih
      have hfi := hf i (by omega)
      have hfj := hf j (by omega)
      have e : ml_c (f i) (sg f j (k2 + 1)) = (if f j < f i then 1 else 0) + ml_c (f i) (sg f (j + 1) k2) := rfl
      rw [bk_X7_tangledByPairs_23, if_neg (by rw [nZ_le ⟨by omega, by omega⟩ ⟨by omega, by omega⟩]; omega), mz_gR t1 (by decide) t2, mz_aJ t3 (by omega) (by omega) (by decide), mz_gR t1 (by decide) t2, mz_aJ t3 (by omega) (by omega) (by decide), mz_w_s, Int.toNat_natCast, Int.toNat_natCast, e]
      by_cases c : f i ≤ f j
      · rw [if_pos ((nZ_le ⟨by omega, by omega⟩ ⟨by omega, by omega⟩).mpr c), nZ_add, ih, if_neg (by omega), Int.zero_add]
      · rw [if_neg (fun q => c ((nZ_le ⟨by omega, by omega⟩ ⟨by omega, by omega⟩).mp q)), nZ_add, nZ_add, ih, if_pos (by omega), Int.add_assoc]
  have key : ∀ k i : Nat, i + k = l.length → ∀ (t : Int) (j5 : Value), mv_run X (mv_call X (d + 4)) m_X7_tangledByPairs 11 [.ref (x + 369), .ref (x + 1), .int (nZ l.length), .int (nZ t), .int (nZ i), j5] [] (mz_h P (mz_w V (x + 370) f), z) = some (.inl (some (.int (nZ (t + ml_i (sg f i k))))), (mz_h P (mz_w V (x + 370) f), z)) := by
    intro k
    induction k with
    | zero =>
      intro i hi t j5
      have : i = l.length := by omega
      subst this
      rw [bk_X7_tangledByPairs_11, if_pos (by exact Int32.le_refl _), show ml_i (sg f l.length 0) = 0 from rfl, Int.add_zero]
    | succ k ih =>
      intro i hi t j5
      have ih := ih (i + 1) (by omega)
      have inn := inner k (i + 1) (by omega) i (by omega) t
      rw [nc1] at ih inn
      have e : ml_i (sg f i (k + 1)) = ml_c (f i) (sg f (i + 1) k) + ml_i (sg f (i + 1) k) := rfl
      rw [bk_X7_tangledByPairs_11, if_neg (by rw [nZ_le ⟨by omega, by omega⟩ ⟨by omega, by omega⟩]; omega), nZ_add, inn, ih, e, Int.add_assoc]
  have k0 := key l.length 0 (by omega) 0 (.retAddr 0)
  rw [Int.zero_add, q1, hl] at k0
  rw [hl]
  exact k0
theorem Q8_tangles (hP : mX_P P x v n) (hI : mr_I s) (h : mh_R V (x + 1) s) : ∃ f : Nat → Int, mv_call X (d + 6) 104 [.ref x] (mz_h P V, z) = some (.inl (some (.int (nZ (mq_tgl s)))), (mz_h P (mz_w V (x + 370) f), z)) := by
  obtain ⟨f, q⟩ := X7_pairs (X := X) (z := z) (d := d) hP hI h
  refine ⟨f, ?_⟩
  rw [mc_X8_tangles, bk_X8_tangles_0, mx_g8 hP, mx_g0 hP, mz_rcv hP.tp.1]
  simp only [mv_clI, mv_cl, q]
/-- the merge -/
theorem X7_mrg {r0 r1 lo mid hi : Nat} (h0 : P.1 r0 = some (.inr (.int, 10))) (h1 : P.1 r1 = some (.inr (.int, 10))) (hr : r0 ≠ r1) (hlo : lo ≤ mid) (hmi : mid ≤ hi) (hhi : hi ≤ 10) {f : Nat → Int} (hf : ∀ q, lo ≤ q → q < hi → -360 ≤ f q ∧ f q ≤ 450) :
    ∀ (k i j o : Nat) (t : Int) (g : Nat → Int), o + k = hi → lo ≤ i → i ≤ mid → mid ≤ j → j ≤ hi → o + mid = i + j → (sg f i (mid - i)).Pairwise (· ≤ ·) → (sg f j (hi - j)).Pairwise (· ≤ ·) →
    ∃ g' : Nat → Int, (∀ q, q < o → g' q = g q) ∧ (sg g' o k).Perm (sg f i (mid - i) ++ sg f j (hi - j)) ∧ (sg g' o k).Pairwise (· ≤ ·) ∧
      mv_run X (mv_call X d) m_X7_mergeAndCount 12 [.ref r0, .ref r1, .int (nZ lo), .int (nZ mid), .int (nZ hi), .int (nZ i), .int (nZ j), .int (nZ t), .int (nZ o)] [] (mz_h P (mz_w (mz_w V r0 f) r1 g), z) =
        some (.inl (some (.int (nZ (t + ml_x (sg f i (mid - i)) (sg f j (hi - j)))))), (mz_h P (mz_cp (mz_w (mz_w V r0 f) r1 g') r1 lo r0 lo (hi - lo)), z)) := by
  intro k
  induction k with
  | zero =>
    intro i j o t g ho li him mj jh he sA sB
    have e1 : i = mid := by omega
    have e2 : j = hi := by omega
    have e3 : o = hi := by omega
    subst e1 e2 e3
    rw [Nat.sub_self, Nat.sub_self]
    refine ⟨g, fun _ _ => rfl, List.Perm.refl _, List.Pairwise.nil, ?_⟩
    rw [bk_X7_mergeAndCount_12, if_pos (by exact Int32.le_refl _), nZ_sub, show ((o : Int) - lo) = ((o - lo : Nat) : Int) by omega, mz_cpy h1 h0 (by decide) (nZ_i ⟨by omega, by omega⟩) (nZ_i ⟨by omega, by omega⟩) (nZ_i ⟨by omega, by omega⟩) (by omega) (by omega), show ml_x (sg f i 0) (sg f o 0) = 0 from rfl, Int.add_zero]
  | succ k ih =>
    intro i j o t g ho li him mj jh he sA sB
    have arI : ∀ F : Int32 → Option mv_R, i < 10 → mv_aI X (mz_h P (mz_w (mz_w V r0 f) r1 g), z) 1 r0 (nZ i) F = F (nZ (f i)) := fun F hi10 => by
      rw [mz_aJ h0 (by omega) (by omega) (by decide), mz_w_n _ _ hr, mz_w_s, Int.toNat_natCast]
    have arJ : ∀ F : Int32 → Option mv_R, j < 10 → mv_aI X (mz_h P (mz_w (mz_w V r0 f) r1 g), z) 1 r0 (nZ j) F = F (nZ (f j)) := fun F hi10 => by
      rw [mz_aJ h0 (by omega) (by omega) (by decide), mz_w_n _ _ hr, mz_w_s, Int.toNat_natCast]
    have arS : ∀ (F : mv_H → Option mv_R) (y : Int), mv_as (mz_h P (mz_w (mz_w V r0 f) r1 g), z) 1 r1 (nZ o) (.int (nZ y)) F = F (mz_h P (mz_w (mz_w V r0 f) r1 (mr_up g o y)), z) := fun F y => by
      rw [mz_sJ h1 (by omega) (by omega) (by decide), mz_w_s, mz_w_w, Int.toNat_natCast]
    -- the next is taken from the left, or from the right
    have goL : i < mid → (∀ y, y ∈ sg f j (hi - j) → f i ≤ y) → ∃ g' : Nat → Int, (∀ q, q < o → g' q = g q) ∧ (sg g' o (k + 1)).Perm (sg f i (mid - i) ++ sg f j (hi - j)) ∧ (sg g' o (k + 1)).Pairwise (· ≤ ·) ∧
        mv_run X (mv_call X d) m_X7_mergeAndCount 12 [.ref r0, .ref r1, .int (nZ lo), .int (nZ mid), .int (nZ hi), .int (nZ i + nZ 1), .int (nZ j), .int (nZ t), .int (nZ o + nZ 1)] [] (mz_h P (mz_w (mz_w V r0 f) r1 (mr_up g o (f i))), z) =
        some (.inl (some (.int (nZ (t + ml_x (sg f i (mid - i)) (sg f j (hi - j)))))), (mz_h P (mz_cp (mz_w (mz_w V r0 f) r1 g') r1 lo r0 lo (hi - lo)), z)) := fun c hall => by
      have eA : sg f i (mid - i) = f i :: sg f (i + 1) (mid - (i + 1)) := by rw [show mid - i = (mid - (i + 1)) + 1 by omega]; rfl
      rw [eA] at sA ⊢
      obtain ⟨g', q1, q2, q3, q4⟩ := ih (i + 1) j (o + 1) t (mr_up g o (f i)) (by omega) (by omega) (by omega) mj jh (by omega) (List.pairwise_cons.mp sA).2 sB
      have hg : g' o = f i := (q1 o (by omega)).trans (mr_up_s _ _ _)
      rw [nc1, nc1] at q4
      refine ⟨g', fun q hq => (q1 q (by omega)).trans (mr_up_n _ _ (by omega)), ?_, ?_, ?_⟩
      · show (g' o :: sg g' (o + 1) k).Perm _
        rw [hg]
        exact q2.cons _
      · show (g' o :: sg g' (o + 1) k).Pairwise _
        rw [hg]
        refine List.pairwise_cons.mpr ⟨fun y hy => ?_, q3⟩
        rcases List.mem_append.mp (q2.mem_iff.mp hy) with hy | hy
        · exact (List.pairwise_cons.mp sA).1 y hy
        · exact hall y hy
      · rw [nZ_add, nZ_add, q4]
        show _ = some (Sum.inl (some (Value.int (nZ (t + (ml_c (f i) _ + _))))), _)
        rw [ml_c_0 hall, Int.zero_add]
    have goR : j < hi → (∀ y, y ∈ sg f i (mid - i) → f j < y) → ∃ g' : Nat → Int, (∀ q, q < o → g' q = g q) ∧ (sg g' o (k + 1)).Perm (sg f i (mid - i) ++ sg f j (hi - j)) ∧ (sg g' o (k + 1)).Pairwise (· ≤ ·) ∧
        mv_run X (mv_call X d) m_X7_mergeAndCount 12 [.ref r0, .ref r1, .int (nZ lo), .int (nZ mid), .int (nZ hi), .int (nZ i), .int (nZ j + nZ 1), .int (nZ t + (nZ mid - nZ i)), .int (nZ o + nZ 1)] [] (mz_h P (mz_w (mz_w V r0 f) r1 (mr_up g o (f j))), z) =
        some (.inl (some (.int (nZ (t + ml_x (sg f i (mid - i)) (sg f j (hi - j)))))), (mz_h P (mz_cp (mz_w (mz_w V r0 f) r1 g') r1 lo r0 lo (hi - lo)), z)) := fun c hall => by
      have eB : sg f j (hi - j) = f j :: sg f (j + 1) (hi - (j + 1)) := by rw [show hi - j = (hi - (j + 1)) + 1 by omega]; rfl
      rw [eB] at sB ⊢
      obtain ⟨g', q1, q2, q3, q4⟩ := ih i (j + 1) (o + 1) (t + ((mid : Int) - i)) (mr_up g o (f j)) (by omega) (by omega) (by omega) (by omega) (by omega) (by omega) sA (List.pairwise_cons.mp sB).2
      have hg : g' o = f j := (q1 o (by omega)).trans (mr_up_s _ _ _)
      rw [nc1, nc1] at q4
      refine ⟨g', fun q hq => (q1 q (by omega)).trans (mr_up_n _ _ (by omega)), ?_, ?_, ?_⟩
      · show (g' o :: sg g' (o + 1) k).Perm _
        rw [hg]
        exact (q2.cons _).trans List.perm_middle.symm
      · show (g' o :: sg g' (o + 1) k).Pairwise _
        rw [hg]
        refine List.pairwise_cons.mpr ⟨fun y hy => ?_, q3⟩
        rcases List.mem_append.mp (q2.mem_iff.mp hy) with hy | hy
        · exact Int.le_of_lt (hall y hy)
        · exact (List.pairwise_cons.mp sB).1 y hy
      · rw [nZ_add, nZ_add, nZ_sub, nZ_add, q4, ml_x_h hall, sg_l, show ((mid - i : Nat) : Int) = (mid : Int) - i by omega, Int.add_assoc]
    rw [bk_X7_mergeAndCount_12, if_neg (by rw [nZ_le ⟨by omega, by omega⟩ ⟨by omega, by omega⟩]; omega)]
    by_cases cj : hi ≤ j
    · rw [if_pos ((nZ_le ⟨by omega, by omega⟩ ⟨by omega, by omega⟩).mpr (by omega)), arI _ (by omega), arS]
      exact goL (by omega) fun y hy => by
        rw [show hi - j = 0 by omega] at hy
        exact absurd hy List.not_mem_nil
    · rw [if_neg (fun q => by rw [nZ_le ⟨by omega, by omega⟩ ⟨by omega, by omega⟩] at q; omega)]
      by_cases ci : mid ≤ i
      · rw [if_pos ((nZ_le ⟨by omega, by omega⟩ ⟨by omega, by omega⟩).mpr (by omega)), arJ _ (by omega), arS]
        exact goR (by omega) fun y hy => by
          rw [show mid - i = 0 by omega] at hy
          exact absurd hy List.not_mem_nil
      · rw [if_neg (fun q => by rw [nZ_le ⟨by omega, by omega⟩ ⟨by omega, by omega⟩] at q; omega), arI _ (by omega), arJ _ (by omega)]
        have fi := hf i (by omega) (by omega)
        have fj := hf j (by omega) (by omega)
        by_cases c : f j < f i
        · rw [if_pos ((nZ_lt ⟨by omega, by omega⟩ ⟨by omega, by omega⟩).mpr c), arJ _ (by omega), arS]
          refine goR (by omega) fun y hy => ?_
          have eA : sg f i (mid - i) = f i :: sg f (i + 1) (mid - (i + 1)) := by rw [show mid - i = (mid - (i + 1)) + 1 by omega]; rfl
          rw [eA] at sA hy
          rcases List.mem_cons.mp hy with e | e
          · omega
          · have := (List.pairwise_cons.mp sA).1 y e
            omega
        · rw [if_neg (fun q => c ((nZ_lt ⟨by omega, by omega⟩ ⟨by omega, by omega⟩).mp q)), arI _ (by omega), arS]
          refine goL (by omega) fun y hy => ?_
          have eB : sg f j (hi - j) = f j :: sg f (j + 1) (hi - (j + 1)) := by rw [show hi - j = (hi - (j + 1)) + 1 by omega]; rfl
          rw [eB] at sB hy
          rcases List.mem_cons.mp hy with e | e
          · omega
          · have := (List.pairwise_cons.mp sB).1 y e
            omega
theorem mz_cp_w {r0 r1 lo n : Nat} (hr : r0 ≠ r1) (f g : Nat → Int) : mz_cp (mz_w (mz_w V r0 f) r1 g) r1 lo r0 lo n = mz_w (mz_w V r0 (fun q => if lo ≤ q ∧ q < lo + n then g q else f q)) r1 g := by
  funext b q
  unfold mz_cp
  by_cases e : b = r0
  · subst e
    rw [mz_w_s, mz_w_n _ _ hr, mz_w_n _ _ hr, mz_w_s, mz_w_s]
    by_cases c : lo ≤ q ∧ q < lo + n
    · rw [if_pos ⟨rfl, c⟩, if_pos c, show lo + (q - lo) = q by omega]
    · rw [if_neg (fun u => c u.2), if_neg c]
  · rw [if_neg (fun u => e u.1)]
    by_cases e2 : b = r1
    · subst e2; rw [mz_w_s, mz_w_s]
    · rw [mz_w_n _ _ e2, mz_w_n _ _ e, mz_w_n _ _ e2, mz_w_n _ _ e]
def ms_c (k : Nat) : Nat := if k = 0 then 1 else if k = 1 then 2 else if k = 2 then 3 else if k = 3 then 5 else 10
theorem ms_c_h {k n : Nat} (hk : k < 4) (h : n ≤ ms_c (k + 1)) : n / 2 ≤ ms_c k ∧ n - n / 2 ≤ ms_c k := by
  have : k = 0 ∨ k = 1 ∨ k = 2 ∨ k = 3 := by omega
  have h0 : ms_c 0 = 1 := rfl
  have h1 : ms_c 1 = 2 := rfl
  have h2 : ms_c 2 = 3 := rfl
  have h3 : ms_c 3 = 5 := rfl
  have h4 : ms_c 4 = 10 := rfl
  rcases this with e | e | e | e
  all_goals subst e
  · have h : n ≤ ms_c 1 := h
    omega
  · have h : n ≤ ms_c 2 := h
    omega
  · have h : n ≤ ms_c 3 := h
    omega
  · have h : n ≤ ms_c 4 := h
    omega
theorem X7_sort {r0 r1 : Nat} (h0 : P.1 r0 = some (.inr (.int, 10))) (h1 : P.1 r1 = some (.inr (.int, 10))) (hr : r0 ≠ r1) : ∀ (k : Nat), k ≤ 4 → ∀ (lo n : Nat) (f g : Nat → Int), lo + n ≤ 10 → n ≤ ms_c k → (∀ q, lo ≤ q → q < lo + n → -360 ≤ f q ∧ f q ≤ 450) →
    ∃ f' g' : Nat → Int, (sg f' lo n).Perm (sg f lo n) ∧ (sg f' lo n).Pairwise (· ≤ ·) ∧ (∀ q, q < lo ∨ lo + n ≤ q → f' q = f q) ∧
      mv_call X (d + k + 2) 81 [.ref r0, .ref r1, .int (nZ lo), .int (nZ (lo + n : Nat)), .int (nZ (4 - k : Nat))] (mz_h P (mz_w (mz_w V r0 f) r1 g), z) = some (.inl (some (.int (nZ (ml_i (sg f lo n))))), (mz_h P (mz_w (mz_w V r0 f') r1 g'), z)) := by
  have small : ∀ (e : Nat) (v4 : Int32) (lo n : Nat) (f g : Nat → Int), lo + n ≤ 10 → n < 2 → ∃ f' g' : Nat → Int, (sg f' lo n).Perm (sg f lo n) ∧ (sg f' lo n).Pairwise (· ≤ ·) ∧ (∀ q, q < lo ∨ lo + n ≤ q → f' q = f q) ∧
      mv_call X (e + 1) 81 [.ref r0, .ref r1, .int (nZ lo), .int (nZ (lo + n : Nat)), .int v4] (mz_h P (mz_w (mz_w V r0 f) r1 g), z) = some (.inl (some (.int (nZ (ml_i (sg f lo n))))), (mz_h P (mz_w (mz_w V r0 f') r1 g'), z)) := by
    intro e v4 lo n f g hn h2
    have en : n = 0 ∨ n = 1 := by omega
    refine ⟨f, g, List.Perm.refl _, ?_, fun _ _ => rfl, ?_⟩
    · rcases en with e | e
      · subst e; exact List.Pairwise.nil
      · subst e; exact List.pairwise_cons.mpr ⟨fun y hy => absurd hy List.not_mem_nil, List.Pairwise.nil⟩
    · rw [mc_X7_sortAndCount, bk_X7_sortAndCount_0, nZ_sub, if_pos (by rw [nZ_lt ⟨by omega, by omega⟩ (by decide)]; omega)]
      rcases en with e | e
      · subst e; rfl
      · subst e; rfl
  intro k
  induction k with
  | zero =>
    intro _ lo n f g hn hc hf
    exact small (d + 1) _ lo n f g hn (by have h1 : ms_c 0 = 1 := rfl; omega)
  | succ k ih =>
    intro hk lo n f g hn hc hf
    by_cases h2 : n < 2
    · exact small (d + k + 2) _ lo n f g hn h2
    · have hh := ms_c_h (show k < 4 by omega) hc
      obtain ⟨m, hm⟩ : ∃ m, m = n / 2 := ⟨_, rfl⟩
      rw [← hm] at hh
      obtain ⟨f1, g1, a1, a2, a3, a4⟩ := ih (by omega) lo m f g (by omega) hh.1 (fun q q1 q2 => hf q q1 (by omega))
      have b1 : sg f1 (lo + m) (n - m) = sg f (lo + m) (n - m) := sg_c fun q q1 q2 => a3 q (by omega)
      obtain ⟨f2, g2, c1, c2, c3, c4⟩ := ih (by omega) (lo + m) (n - m) f1 g1 (by omega) hh.2 (fun q q1 q2 => by rw [a3 q (by omega)]; exact hf q (by omega) (by omega))
      have b2 : sg f2 lo m = sg f1 lo m := sg_c fun q q1 q2 => c3 q (by omega)
      rw [b1] at c1 c4
      rw [← b2] at a1 a2
      have hf2 : ∀ q, lo ≤ q → q < lo + n → -360 ≤ f2 q ∧ f2 q ≤ 450 := fun q q1 q2 => by
        by_cases e : q < lo + m
        · have hm1 : f2 q ∈ sg f lo m := a1.mem_iff.mp (sg_i q1 e)
          obtain ⟨q', u1, u2, u3⟩ := sg_m hm1
          rw [← u3]
          exact hf q' u1 (by omega)
        · have hm1 : f2 q ∈ sg f (lo + m) (n - m) := c1.mem_iff.mp (sg_i (by omega) (by omega))
          obtain ⟨q', u1, u2, u3⟩ := sg_m hm1
          rw [← u3]
          exact hf q' (by omega) (by omega)
      have es1 : lo + m - lo = m := by omega
      have es2 : lo + n - (lo + m) = n - m := by omega
      obtain ⟨g3, d1, d2, d3, d4⟩ := X7_mrg (X := X) (V := V) (z := z) (d := d + k + 1) (lo := lo) (mid := lo + m) (hi := lo + n) h0 h1 hr (by omega) (by omega) hn hf2 n lo (lo + m) lo 0 g2 rfl (by omega) (by omega) (by omega) (by omega) (by omega) (by rw [es1]; exact a2) (by rw [es2]; exact c2)
      rw [es1, es2] at d2 d4
      rw [show lo + n - lo = n by omega, mz_cp_w hr, Int.zero_add] at d4
      have e5 : sg (fun q => if lo ≤ q ∧ q < lo + n then g3 q else f2 q) lo n = sg g3 lo n := sg_c fun q q1 q2 => if_pos ⟨q1, q2⟩
      refine ⟨fun q => if lo ≤ q ∧ q < lo + n then g3 q else f2 q, g3, ?_, ?_, fun q hq => ?_, ?_⟩
      · rw [e5]
        refine d2.trans ?_
        have := sg_app f m lo (n - m)
        rw [show m + (n - m) = n by omega] at this
        rw [this]
        exact a1.append c1
      · rw [e5]; exact d3
      · show (if lo ≤ q ∧ q < lo + n then g3 q else f2 q) = f q
        rw [if_neg (by omega), c3 q (by omega), a3 q (by omega)]
      · have ed : ((lo : Int) + (lo + n : Nat)) / 2 = (lo + m : Nat) := by omega
        have el : ((4 - (k + 1) : Nat) : Int) + 1 = (4 - k : Nat) := by omega
        have en : lo + m + (n - m) = lo + n := by omega
        rw [en] at c4
        have e82 : ∀ R : Option mv_R, mv_run X (mv_call X (d + k + 1)) m_X7_mergeAndCount 12 [.ref r0, .ref r1, .int (nZ lo), .int (nZ (lo + m : Nat)), .int (nZ (lo + n : Nat)), .int (nZ lo), .int (nZ (lo + m : Nat)), .int (nZ 0), .int (nZ lo)] [] (mz_h P (mz_w (mz_w V r0 f2) r1 g2), z) = R → mv_call X (d + k + 2) 82 [.ref r0, .ref r1, .int (nZ lo), .int (nZ (lo + m : Nat)), .int (nZ (lo + n : Nat))] (mz_h P (mz_w (mz_w V r0 f2) r1 g2), z) = R := fun R hR => by
          rw [mc_X7_mergeAndCount, bk_X7_mergeAndCount_0]
          exact hR
        have e82 := e82 _ d4
        rw [show d + (k + 1) + 2 = d + k + 2 + 1 by omega, mc_X7_sortAndCount, bk_X7_sortAndCount_0, nZ_sub, if_neg (by rw [nZ_lt ⟨by omega, by omega⟩ (by decide)]; omega), if_pos (by rw [nZ_le ⟨by omega, by omega⟩ (by decide)]; omega), if_neg (by decide), nZ_add, nZ_add, nZ_div (by omega) (by omega) (by decide) (by decide), ed, el]
        simp only [mv_clI, mv_cl, a4, c4, e82, nZ_add]
        have := ml_i_app (sg f lo m) (sg f (lo + m) (n - m))
        rw [← sg_app f m lo (n - m), show m + (n - m) = n by omega] at this
        rw [this, ml_x_l a1, ml_x_r c1]
theorem Q8_tanglesByMerging (hP : mX_P P x v n) (hI : mr_I s) (h : mh_R V (x + 1) s) : ∃ f g : Nat → Int, mv_call X (d + 8) 105 [.ref x] (mz_h P V, z) = some (.inl (some (.int (nZ (mq_tgl s)))), (mz_h P (mz_w (mz_w V (x + 370) f) (x + 371) g), z)) := by
  obtain ⟨t1, t2, t3, t4, t5⟩ := hP.tp
  obtain ⟨f, q1, q2⟩ := X7_collect (X := X) (z := z) (d := d + 2) hP hI h
  have hl10 := ml_t_len s 10 0
  have hin := ml_t_in hI 10 0 (by decide)
  obtain ⟨f', g', a1, a2, a3, a4⟩ := X7_sort (X := X) (V := V) (z := z) (d := d) t3 t5 (by omega) 4 (by decide) 0 (ml_t s 0 10).length f (V (x + 371)) (by omega) hl10 (fun q _ q2 => hin _ (by rw [← q1]; exact sg_i (by omega) (by omega)))
  have e0 : mz_w (mz_w V (x + 370) f) (x + 371) (V (x + 371)) = mz_w V (x + 370) f := by
    conv => lhs; rw [← mz_w_n V (a := x + 370) (b := x + 371) f (by omega)]
    exact mz_w_id _ _
  rw [e0, q1, Nat.zero_add] at a4
  have a4 : mv_call X (d + 6) 81 [.ref (x + 370), .ref (x + 371), .int (nZ 0), .int (nZ (ml_t s 0 10).length), .int (nZ 0)] (mz_h P (mz_w V (x + 370) f), z) = _ := a4
  refine ⟨f', g', ?_⟩
  rw [mc_X8_tanglesByMerging, bk_X8_tanglesByMerging_0, mx_g8 hP, mx_g0 hP, mz_rcv t1]
  have e80 : mv_call X (d + 7) 80 [.ref (x + 369), .ref (x + 1)] (mz_h P V, z) = some (.inl (some (.int (nZ (mq_tgl s)))), (mz_h P (mz_w (mz_w V (x + 370) f') (x + 371) g'), z)) := by
    rw [mc_X7_tangledByMerging, bk_X7_tangledByMerging_0, mz_gR t1 (by decide) t2, mz_gR t1 (by decide) t4, mz_rcv t1]
    simp only [mv_clI, mv_cl, q2, a4]
    rfl
  simp only [mv_clI, mv_cl, e80]
end TGL
