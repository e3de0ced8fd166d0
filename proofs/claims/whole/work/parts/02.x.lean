/-! the component's walks, each against its plain function -/
theorem wn_Xv4 (post : Int32 → Prop) (x : Nat) : ∀ s a : Nat, a < 2 ^ 31 → x + s < 2 ^ 31 → post (nI (wn_dg s a)) → wX_valueIn_4 post (nI x) (s + 1) (nI a) (nI (x + s)) := by
  intro s
  induction s with
  | zero =>
    intro a ha hx h
    refine br_t (nI_le (by omega) (by omega)) ⟨by decide, ?_⟩
    have e := pk_rem (d := 3) ha (by decide) (by decide)
    rw [wn_dg, ← e] at h
    exact h
  | succ s ih =>
    intro a ha hx h
    refine br_f (nI_ge (by omega) (by omega)) ⟨by decide, nm_r (pk_div (d := 3) ha (by decide) (by decide)) (nm_r (pk_m1 (x + s)) ?_)⟩
    exact ih (a / 3) (by omega) (by omega) h
theorem wn_Xv {post : Int32 → Prop} {a x : Nat} (ha : a < 729) (hx : x < 6) (h : post (nI (wn_dg (5 - x) a))) : wpX_valueIn post (nI a) (nI x) := by
  have h1 := wn_Xv4 post x (5 - x) a (by omega) (by omega) h
  have e : x + (5 - x) = 5 := by omega
  rw [e] at h1
  exact ⟨5 - x + 1, h1⟩
section
variable {t : Nat} {vc pc tx ty : Nat → Int32}
theorem wn_X49 (post : Int32 → Prop) (hk : wn_ok t vc pc tx ty) {a : Nat} (ha : a < 729) : ∀ (r i : Nat) (s : Int32), i + r = t → post (wn_V2 (wn_g pc tx ty a) r i s) → wX_costOf_49 post (nI a) (nI t) vc pc tx ty (r + 1) s (nI i) := by
  have ht := hk.1
  intro r
  induction r with
  | zero => exact fun i s hi h => br_t (nI_le (by omega) (by omega)) h
  | succ r ih =>
    intro i s hi h
    have hi8 : i < 8 := by omega
    obtain ⟨mx, hmx, ex⟩ := hk.2.2.2.1 i hi8
    obtain ⟨my, hmy, ey⟩ := hk.2.2.2.2 i hi8
    have ei : (nI i).toNatClampNeg = i := nI_clamp (by omega)
    have h1 := wn_dg_lt (5 - mx) a
    have h2 := wn_dg_lt (5 - my) a
    have eg : wn_g pc tx ty a i = pc (i * 9 + wn_dg (5 - my) a * 3 + wn_dg (5 - mx) a) := by
      unfold wn_g
      rw [ex, ey, nI_clamp (by omega), nI_clamp (by omega)]
    have en : nI i * 9 + nI (wn_dg (5 - my) a) * 3 + nI (wn_dg (5 - mx) a) = nI (i * 9 + wn_dg (5 - my) a * 3 + wn_dg (5 - mx) a) := by
      rw [show (9 : Int32) = nI 9 from rfl, show (3 : Int32) = nI 3 from rfl, pk_mul, pk_mul, nI_add, nI_add]
    refine br_f (nI_ge (by omega) (by omega)) ⟨vp_in_nI hi8 (by decide), ?_⟩
    rw [ei, ex, ey]
    refine wn_Xv ha hmx ⟨vp_in_nI hi8 (by decide), ?_⟩
    refine wn_Xv ha hmy ?_
    rw [en, nI_clamp (by omega), ← eg]
    refine ⟨vp_in_nI (by omega) (by decide), nm_e ?_⟩
    rw [wn_V2] at h
    refine br_c (fun z => ?_) (fun z => nm_e (nm_r (nI_1 i) ?_))
    · rw [if_pos z] at h
      exact h
    · rw [if_neg z] at h
      exact ih (i + 1) _ (by omega) h
theorem wn_X4 (post : Int32 → Prop) (hk : wn_ok t vc pc tx ty) {a : Nat} (ha : a < 729) : ∀ (r i : Nat) (s : Int32), i + r = 6 → post (wn_V1 (wn_f vc a) (wn_g pc tx ty a) t r i s) → wX_costOf_4 post (nI a) (nI t) vc pc tx ty (r + 1) s (nI i) := by
  intro r
  induction r with
  | zero => exact fun i s hi h => br_t (nI_le (a := 6) (by omega) (by omega)) ⟨t + 1, wn_X49 post hk ha t 0 s (by omega) h⟩
  | succ r ih =>
    intro i s hi h
    have h1 := wn_dg_lt (5 - i) a
    have en : nI i * 3 + nI (wn_dg (5 - i) a) = nI (i * 3 + wn_dg (5 - i) a) := by
      rw [show (3 : Int32) = nI 3 from rfl, pk_mul, nI_add]
    have eg : wn_f vc a i = vc (i * 3 + wn_dg (5 - i) a) := rfl
    refine br_f (nI_ge (b := 6) (by omega) (by decide)) (wn_Xv ha (by omega) ?_)
    rw [en, nI_clamp (by omega), ← eg]
    refine ⟨vp_in_nI (by omega) (by decide), nm_e ?_⟩
    rw [wn_V1] at h
    refine br_c (fun z => ?_) (fun z => nm_e (nm_r (nI_1 i) ?_))
    · rw [if_pos z] at h
      exact h
    · rw [if_neg z] at h
      exact ih (i + 1) _ (by omega) h
theorem wn_Xc {post : Int32 → Prop} (hk : wn_ok t vc pc tx ty) {a : Nat} (ha : a < 729) (h : post (wn_c t vc pc tx ty a)) : wpX_costOf post (nI t, vc, pc, tx, ty) (nI a) :=
  ⟨7, wn_X4 post hk ha 6 0 0 (by decide) h⟩
theorem wn_X8 (post : Int32 → Prop) (hk : wn_ok t vc pc tx ty) : ∀ (r i : Nat) (o : Option Nat), i + r = 729 → wn_P (wn_c t vc pc tx ty) i o → post (wn_o1 (wn_F (wn_c t vc pc tx ty) r i o)) → wX_firstOfLeastCost_8 post (nI t) vc pc tx ty (r + 1) (wn_o1 o) (wn_o2 (wn_c t vc pc tx ty) o) (nI i) := by
  intro r
  induction r with
  | zero => exact fun i o hi _ h => br_t (nI_le (a := 729) (by omega) (by omega)) h
  | succ r ih =>
    intro i o hi hP h
    have hN := wn_fs_P hP
    rw [wn_F] at h
    refine br_f (nI_ge (b := 729) (by omega) (by decide)) (wn_Xc hk (by omega) ?_)
    by_cases z : wn_c t vc pc tx ty i = -6
    · rw [wn_fs_n6 z] at h hN
      exact br_t z (br_t rfl (nm_r (nI_1 i) (ih (i + 1) o (by omega) hN h)))
    · refine br_f z ?_
      cases o with
      | none =>
        rw [wn_fs_n z] at h hN
        exact br_t rfl (br_f (by decide) (nm_r (nI_1 i) (ih (i + 1) (some i) (by omega) hN h)))
      | some m =>
        refine br_f (hP.2 m rfl).2.1 ?_
        by_cases y : wn_c t vc pc tx ty m ≤ wn_c t vc pc tx ty i
        · rw [wn_fs_le z y] at h hN
          exact br_t y (br_t rfl (nm_r (nI_1 i) (ih (i + 1) (some m) (by omega) hN h)))
        · rw [wn_fs_gt z y] at h hN
          exact br_f y (br_f (by decide) (nm_r (nI_1 i) (ih (i + 1) (some i) (by omega) hN h)))
theorem wn_Xf {post : Int32 → Prop} (hk : wn_ok t vc pc tx ty) (h : post (wn_o1 (wn_B (wn_c t vc pc tx ty)))) : wpX_firstOfLeastCost post (nI t, vc, pc, tx, ty) :=
  ⟨730, wn_X8 post hk 729 0 none (by decide) (wn_P0 _) h⟩
theorem wn_Xl {post : Int32 → Prop} (hk : wn_ok t vc pc tx ty) (h : post (wn_L (wn_c t vc pc tx ty))) : wpX_least post (nI t, vc, pc, tx, ty) := by
  have hP := wn_B_P (wn_c t vc pc tx ty)
  unfold wn_L at h
  unfold wpX_least
  dsimp only
  refine wn_Xf hk ?_
  generalize wn_B (wn_c t vc pc tx ty) = o at hP h
  cases o with
  | none => exact br_t rfl h
  | some j =>
    have hj := (hP.2 j rfl).1
    exact br_f (wn_n6 (by omega)) (wn_Xc hk hj h)
theorem wn_X25 (post : Int32 → Prop) (hk : wn_ok t vc pc tx ty) {x : Nat} (hx : x < 6) (y : Int32) : ∀ (r i : Nat) (b : Int32), i + r = 729 → post (wn_W (wn_c t vc pc tx ty) (fun k => decide (nI (wn_dg (5 - x) k) = y)) r i b) → wX_leastWith_25 post (nI x) y (nI t) vc pc tx ty (r + 1) b (nI i) := by
  intro r
  induction r with
  | zero => exact fun i b hi h => br_t (nI_le (a := 729) (by omega) (by omega)) h
  | succ r ih =>
    intro i b hi h
    rw [wn_W, wn_ws] at h
    refine br_f (nI_ge (b := 729) (by omega) (by decide)) (wn_Xv (by omega) hx ?_)
    by_cases p : nI (wn_dg (5 - x) i) = y
    · rw [if_pos (decide_eq_true p)] at h
      refine br_t p (wn_Xc hk (by omega) ?_)
      by_cases z : wn_c t vc pc tx ty i = -6
      · rw [if_pos z] at h
        exact br_t z (br_t rfl (nm_r (nI_1 i) (ih (i + 1) b (by omega) h)))
      · rw [if_neg z] at h
        refine br_f z ?_
        by_cases q : b = -6
        · rw [if_pos q] at h
          exact br_t q (br_f (by decide) (nm_r (nI_1 i) (ih (i + 1) _ (by omega) h)))
        · rw [if_neg q] at h
          refine br_f q ?_
          by_cases w : b ≤ wn_c t vc pc tx ty i
          · rw [if_pos w] at h
            exact br_t w (br_t rfl (nm_r (nI_1 i) (ih (i + 1) _ (by omega) h)))
          · rw [if_neg w] at h
            exact br_f w (br_f (by decide) (nm_r (nI_1 i) (ih (i + 1) _ (by omega) h)))
    · rw [if_neg (fun e => p (of_decide_eq_true e))] at h
      exact br_f p (nm_r (nI_1 i) (ih (i + 1) b (by omega) h))
theorem wn_X17 (post : Int32 → Prop) (hk : wn_ok t vc pc tx ty) (y : Int32) : ∀ (r i : Nat) (n : Int32), i + r = 729 → post (wn_N (fun k => decide (wn_c t vc pc tx ty k = y)) r i n) → wX_ties_17 post y (nI t) vc pc tx ty (r + 1) n (nI i) := by
  intro r
  induction r with
  | zero => exact fun i b hi h => br_t (nI_le (a := 729) (by omega) (by omega)) h
  | succ r ih =>
    intro i n hi h
    rw [wn_N] at h
    refine br_f (nI_ge (b := 729) (by omega) (by decide)) (wn_Xc hk (by omega) ?_)
    by_cases p : wn_c t vc pc tx ty i = y
    · rw [if_pos (decide_eq_true p)] at h
      exact br_t p (nm_e (nm_r (nI_1 i) (ih (i + 1) _ (by omega) h)))
    · rw [if_neg (fun e => p (of_decide_eq_true e))] at h
      exact br_f p (nm_r (nI_1 i) (ih (i + 1) _ (by omega) h))
theorem wn_Xa4 (post : Int32 → Prop) (hk : wn_ok t vc pc tx ty) : ∀ (r i : Nat) (n : Int32), i + r = 729 → post (wn_N (fun k => decide (¬ wn_c t vc pc tx ty k = -6)) r i n) → wX_allowed_4 post (nI t) vc pc tx ty (r + 1) n (nI i) := by
  intro r
  induction r with
  | zero => exact fun i b hi h => br_t (nI_le (a := 729) (by omega) (by omega)) h
  | succ r ih =>
    intro i n hi h
    rw [wn_N] at h
    refine br_f (nI_ge (b := 729) (by omega) (by decide)) (wn_Xc hk (by omega) ?_)
    by_cases p : wn_c t vc pc tx ty i = -6
    · rw [if_neg (fun e => absurd p (of_decide_eq_true e))] at h
      exact br_t p (nm_r (nI_1 i) (ih (i + 1) _ (by omega) h))
    · rw [if_pos (decide_eq_true p)] at h
      exact br_f p (nm_e (nm_r (nI_1 i) (ih (i + 1) _ (by omega) h)))
theorem wn_Xu4 (post : Int32 → Prop) (hk : wn_ok t vc pc tx ty) (y : Int32) : ∀ (r i : Nat) (n : Int32), i + r = 729 → post (wn_N (fun k => decide (¬ wn_c t vc pc tx ty k = -6 ∧ ¬ y < wn_c t vc pc tx ty k)) r i n) → wX_upTo_4 post y (nI t) vc pc tx ty (r + 1) n (nI i) := by
  intro r
  induction r with
  | zero => exact fun i b hi h => br_t (nI_le (a := 729) (by omega) (by omega)) h
  | succ r ih =>
    intro i n hi h
    rw [wn_N] at h
    refine br_f (nI_ge (b := 729) (by omega) (by decide)) (wn_Xc hk (by omega) ?_)
    by_cases p : wn_c t vc pc tx ty i = -6
    · rw [if_neg (fun e => (of_decide_eq_true e).1 p)] at h
      exact br_t p (nm_r (nI_1 i) (ih (i + 1) _ (by omega) h))
    · refine br_f p ?_
      by_cases q : y < wn_c t vc pc tx ty i
      · rw [if_neg (fun e => (of_decide_eq_true e).2 q)] at h
        exact br_t q (nm_r (nI_1 i) (ih (i + 1) _ (by omega) h))
      · rw [if_pos (decide_eq_true ⟨p, q⟩)] at h
        exact br_f q (nm_e (nm_r (nI_1 i) (ih (i + 1) _ (by omega) h)))
theorem wn_X32 (post : Int32 → Prop) (hk : wn_ok t vc pc tx ty) {x z : Nat} (hx : x < 6) (hz : z < 6) (y : Int32) : ∀ (r i : Nat), i + r = 729 → post (wn_A (fun k => decide (nI (wn_dg (5 - x) k) = nI (wn_dg (5 - z) k) ∧ wn_c t vc pc tx ty k = y)) r i) → wX_canAgree_32 post (nI x) (nI z) y (nI t) vc pc tx ty (r + 1) (nI i) := by
  intro r
  induction r with
  | zero => exact fun i hi h => br_t (nI_le (a := 729) (by omega) (by omega)) h
  | succ r ih =>
    intro i hi h
    rw [wn_A] at h
    refine br_f (nI_ge (b := 729) (by omega) (by decide)) (wn_Xv (by omega) hx (wn_Xv (by omega) hz ?_))
    by_cases p : nI (wn_dg (5 - x) i) = nI (wn_dg (5 - z) i)
    · refine br_t p (wn_Xc hk (by omega) ?_)
      by_cases q : wn_c t vc pc tx ty i = y
      · rw [if_pos (decide_eq_true ⟨p, q⟩)] at h
        exact br_t q h
      · rw [if_neg (fun e => q (of_decide_eq_true e).2)] at h
        exact br_f q (nm_r (nI_1 i) (ih (i + 1) (by omega) h))
    · rw [if_neg (fun e => p (of_decide_eq_true e).1)] at h
      exact br_f p (nm_r (nI_1 i) (ih (i + 1) (by omega) h))
theorem wn_Xt55 (post : Int32 → SX → Prop) (ht : t < 8) : ∀ (r i : Nat) (pc : Nat → Int32), i + r = 9 → post (nI t) (nI (t + 1), vc, wn_Z t r i pc, tx, ty) → wX_table_55 post (nI t) (nI t) (r + 1) (nI i) vc pc tx ty := by
  intro r
  induction r with
  | zero => exact fun i pc hi h => br_t (nI_le (a := 9) (by omega) (by omega)) (nm_r (nI_1 t) h)
  | succ r ih =>
    intro i pc hi h
    have en : nI t * 9 + nI i = nI (t * 9 + i) := by
      rw [show (9 : Int32) = nI 9 from rfl, pk_mul, nI_add]
    refine br_f (nI_ge (b := 9) (by omega) (by decide)) ?_
    rw [en, nI_clamp (by omega)]
    exact ⟨vp_in_nI (by omega) (by decide), nm_e (nm_r (nI_1 i) (ih (i + 1) _ (by omega) h))⟩
end
/-! arguments that are refused, and arguments that are taken -/
theorem wn_XvB {post : Int32 → Prop} {x : Int32} (hx : x < 0 ∨ (¬ x < 0 ∧ nI 6 ≤ x)) (h : post 0) : wpX_isVariable post x := by
  rcases hx with a | ⟨a, b⟩
  · exact br_t a h
  · exact br_f a (br_t b h)
theorem wn_XvG {post : Int32 → Prop} {j : Nat} (hj : j < 6) (h : post 1) : wpX_isVariable post (nI j) :=
  br_f (nI_pos (by omega)) (br_f (nI_ge (b := 6) hj (by decide)) h)
theorem wn_XuB {post : Int32 → Prop} {x : Int32} (hx : x < 0 ∨ (¬ x < 0 ∧ nI 3 ≤ x)) (h : post 0) : wpX_isValue post x := by
  rcases hx with a | ⟨a, b⟩
  · exact br_t a h
  · exact br_f a (br_t b h)
theorem wn_XuG {post : Int32 → Prop} {j : Nat} (hj : j < 3) (h : post 1) : wpX_isValue post (nI j) :=
  br_f (nI_pos (by omega)) (br_f (nI_ge (b := 3) hj (by decide)) h)
/-- nI (n + 1) ≤ x is n < x -/
theorem wn_gt {x : Int32} {n : Nat} (hn : n + 1 < 2 ^ 31) (h : nI (n + 1) ≤ x) : nI n < x := by
  rw [Int32.le_iff_toInt_le, nI_toInt hn] at h
  rw [Int32.lt_iff_toInt_lt, nI_toInt (by omega)]
  omega
theorem wn_nle {x : Int32} {n : Nat} (hn : n + 1 < 2 ^ 31) (h : nI (n + 1) ≤ x) : ¬ x ≤ nI n := by
  rw [Int32.le_iff_toInt_le, nI_toInt hn] at h
  rw [Int32.le_iff_toInt_le, nI_toInt (by omega)]
  omega
theorem wn_nlt {x : Int32} {n : Nat} (h : nI n ≤ x) : ¬ x < nI n := by
  rw [Int32.le_iff_toInt_le] at h
  rw [Int32.lt_iff_toInt_lt]
  omega
theorem wn_XkB {post : Int32 → Prop} {x : Int32} (hx : x < 0 ∨ (¬ x < 0 ∧ nI 21 ≤ x)) (h : post 0) : wpX_isCost post x := by
  rcases hx with a | ⟨a, b⟩
  · exact br_t a h
  · exact br_f a (br_t (wn_gt (n := 20) (by decide) b) h)
theorem wn_XkG {post : Int32 → Prop} {j : Nat} (hj : j < 21) (h : post 1) : wpX_isCost post (nI j) :=
  br_f (nI_pos (by omega)) (br_f (nI_nlt (a := 20) (by omega) (by decide)) h)
