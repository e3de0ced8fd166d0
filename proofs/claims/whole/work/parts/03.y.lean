/-! the reference's walks, each against the same plain functions -/
section
variable {t : Nat} {kn : Int32} {vc pc tx ty tot : Nat → Int32}
theorem wn_Yv5 (post : Int32 → Prop) (x : Nat) (T : Int32) : ∀ s a : Nat, a < 2 ^ 31 → x + s < 2 ^ 31 → post (nI (wn_dg s a)) → wY_valueIn_5 post (nI x) T kn vc tx ty pc tot (s + 1) (nI a) (nI (x + s)) := by
  intro s
  induction s with
  | zero =>
    intro a ha hx h
    refine br_t (nI_le (by omega) (by omega)) ⟨by decide, ?_⟩
    have e := pk_rem (d := 3) ha (by decide) (by decide)
    rw [wn_dg, ← e] at h
    exact h
  | succ s ih =>
    intro a ha hx h
    refine br_f (nI_ge (by omega) (by omega)) ⟨by decide, nm_r (pk_div (d := 3) ha (by decide) (by decide)) (nm_r (pk_m1 (x + s)) ?_)⟩
    exact ih (a / 3) (by omega) (by omega) h
theorem wn_Yv {post : Int32 → Prop} {T : Int32} {a x : Nat} (ha : a < 729) (hx : x < 6) (h : post (nI (wn_dg (5 - x) a))) : wpY_valueIn post (T, kn, vc, tx, ty, pc, tot) (nI a) (nI x) := by
  have h1 := wn_Yv5 (kn := kn) (vc := vc) (pc := pc) (tx := tx) (ty := ty) (tot := tot) post x T (5 - x) a (by omega) (by omega) h
  have e : x + (5 - x) = 5 := by omega
  rw [e] at h1
  exact ⟨5 - x + 1, h1⟩
theorem wn_Y64 (post : Int32 → Prop) (hk : wn_ok t vc pc tx ty) {a : Nat} (ha : a < 729) : ∀ (r i : Nat) (s : Int32), i + r = t →
    (post (wn_V2 (wn_g pc tx ty a) r i s) → wY_totalOf_64 post (nI a) (nI t) kn vc tx ty pc tot (r + 1) s 0 (nI i)) ∧
    (post (-6) → wY_totalOf_64 post (nI a) (nI t) kn vc tx ty pc tot (r + 1) s 1 (nI i)) := by
  have ht := hk.1
  intro r
  induction r with
  | zero => exact fun i s hi => ⟨fun h => br_t (nI_le (by omega) (by omega)) (br_t rfl h), fun h => br_t (nI_le (by omega) (by omega)) (br_f (by decide) h)⟩
  | succ r ih =>
    intro i s hi
    have hi8 : i < 8 := by omega
    obtain ⟨mx, hmx, ex⟩ := hk.2.2.2.1 i hi8
    obtain ⟨my, hmy, ey⟩ := hk.2.2.2.2 i hi8
    have ei : (nI i).toNatClampNeg = i := nI_clamp (by omega)
    have h1 := wn_dg_lt (5 - mx) a
    have h2 := wn_dg_lt (5 - my) a
    have eg : wn_g pc tx ty a i = pc (i * 9 + wn_dg (5 - my) a * 3 + wn_dg (5 - mx) a) := by
      unfold wn_g
      rw [ex, ey, nI_clamp (by omega), nI_clamp (by omega)]
    have en : nI i * 9 + nI (wn_dg (5 - mx) a) + 3 * nI (wn_dg (5 - my) a) = nI (i * 9 + wn_dg (5 - my) a * 3 + wn_dg (5 - mx) a) := by
      rw [show (9 : Int32) = nI 9 from rfl, show (3 : Int32) = nI 3 from rfl, pk_mul, pk_mul, nI_add, nI_add]
      exact congrArg nI (by omega)
    have ih2 := ih (i + 1) (s + wn_g pc tx ty a i) (by omega)
    constructor
    · intro h
      refine br_f (nI_ge (by omega) (by omega)) ⟨vp_in_nI hi8 (by decide), ?_⟩
      rw [ei, ex, ey]
      refine wn_Yv ha hmx ⟨vp_in_nI hi8 (by decide), ?_⟩
      refine wn_Yv ha hmy ?_
      rw [en, nI_clamp (by omega), ← eg]
      refine ⟨vp_in_nI (by omega) (by decide), nm_e (nm_e (br_t rfl ?_))⟩
      rw [wn_V2] at h
      refine br_c (fun z => nm_r (nI_1 i) ?_) (fun z => nm_r (nI_1 i) ?_)
      · rw [if_pos z] at h
        exact ih2.2 h
      · rw [if_neg z] at h
        exact ih2.1 h
    · intro h
      refine br_f (nI_ge (by omega) (by omega)) ⟨vp_in_nI hi8 (by decide), ?_⟩
      rw [ei, ex, ey]
      refine wn_Yv ha hmx ⟨vp_in_nI hi8 (by decide), ?_⟩
      refine wn_Yv ha hmy ?_
      rw [en, nI_clamp (by omega), ← eg]
      exact ⟨vp_in_nI (by omega) (by decide), nm_e (nm_e (br_f (by decide) (nm_r (nI_1 i) (ih2.2 h))))⟩
theorem wn_Y7 (post : Int32 → Prop) (hk : wn_ok t vc pc tx ty) {a : Nat} (ha : a < 729) : ∀ (r i : Nat) (s : Int32), i + r = 6 →
    (post (wn_V1 (wn_f vc a) (wn_g pc tx ty a) t r i s) → wY_totalOf_7 post (nI a) (nI t) kn vc tx ty pc tot (r + 1) s 0 (nI i)) ∧
    (post (-6) → wY_totalOf_7 post (nI a) (nI t) kn vc tx ty pc tot (r + 1) s 1 (nI i)) := by
  intro r
  induction r with
  | zero => exact fun i s hi => ⟨fun h => br_t (nI_le (a := 6) (by omega) (by omega)) ⟨t + 1, (wn_Y64 post hk ha t 0 s (by omega)).1 h⟩, fun h => br_t (nI_le (a := 6) (by omega) (by omega)) ⟨t + 1, (wn_Y64 post hk ha t 0 s (by omega)).2 h⟩⟩
  | succ r ih =>
    intro i s hi
    have h1 := wn_dg_lt (5 - i) a
    have en : nI i * 3 + nI (wn_dg (5 - i) a) = nI (i * 3 + wn_dg (5 - i) a) := by
      rw [show (3 : Int32) = nI 3 from rfl, pk_mul, nI_add]
    have eg : wn_f vc a i = vc (i * 3 + wn_dg (5 - i) a) := rfl
    have ih2 := ih (i + 1) (s + wn_f vc a i) (by omega)
    constructor
    · intro h
      refine br_f (nI_ge (b := 6) (by omega) (by decide)) (wn_Yv ha (by omega) ?_)
      rw [en, nI_clamp (by omega), ← eg]
      refine ⟨vp_in_nI (by omega) (by decide), nm_e (nm_e (br_t rfl ?_))⟩
      rw [wn_V1] at h
      refine br_c (fun z => nm_r (nI_1 i) ?_) (fun z => nm_r (nI_1 i) ?_)
      · rw [if_pos z] at h
        exact ih2.2 h
      · rw [if_neg z] at h
        exact ih2.1 h
    · intro h
      refine br_f (nI_ge (b := 6) (by omega) (by decide)) (wn_Yv ha (by omega) ?_)
      rw [en, nI_clamp (by omega), ← eg]
      exact ⟨vp_in_nI (by omega) (by decide), nm_e (nm_e (br_f (by decide) (nm_r (nI_1 i) (ih2.2 h))))⟩
theorem wn_Yt {post : Int32 → Prop} (hk : wn_ok t vc pc tx ty) {a : Nat} (ha : a < 729) (h : post (wn_c t vc pc tx ty a)) : wpY_totalOf post (nI t, kn, vc, tx, ty, pc, tot) (nI a) :=
  ⟨7, (wn_Y7 post hk ha 6 0 0 (by decide)).1 h⟩
theorem wn_Y10 (post : SY → Prop) (hk : wn_ok t vc pc tx ty) (h : ∀ tot' : Nat → Int32, (∀ j, j < 729 → tot' j = wn_c t vc pc tx ty j) → post (nI t, 1, vc, tx, ty, pc, tot')) : ∀ (r i : Nat) (tot : Nat → Int32), i + r = 729 → (∀ j, j < i → tot j = wn_c t vc pc tx ty j) → wY_work_10 post (nI t) kn (r + 1) (nI i) vc tx ty pc tot := by
  intro r
  induction r with
  | zero => exact fun i tot hi hT => br_t (nI_le (a := 729) (by omega) (by omega)) (h tot (fun j hj => hT j (by omega)))
  | succ r ih =>
    intro i tot hi hT
    have ei : (nI i).toNatClampNeg = i := nI_clamp (by omega)
    refine br_f (nI_ge (b := 729) (by omega) (by decide)) (wn_Yt hk (by omega) ⟨vp_in_nI (by omega) (by decide), ?_⟩)
    rw [ei]
    refine nm_e (nm_r (nI_1 i) (ih (i + 1) _ (by omega) (fun j hj => ?_)))
    by_cases e : j = i
    · rw [e, pk_us]
    · rw [pk_un e]
      exact hT j (by omega)
/-- the totals are known, if they are said to be -/
def wn_T (t : Nat) (kn : Int32) (vc pc tx ty tot : Nat → Int32) : Prop := ¬ kn = 0 → ∀ j, j < 729 → tot j = wn_c t vc pc tx ty j
theorem wn_Yw {post : SY → Prop} (hk : wn_ok t vc pc tx ty) (hT : wn_T t kn vc pc tx ty tot)
    (h : ∀ (kn' : Int32) (tot' : Nat → Int32), (∀ j, j < 729 → tot' j = wn_c t vc pc tx ty j) → post (nI t, kn', vc, tx, ty, pc, tot')) : wpY_work post (nI t, kn, vc, tx, ty, pc, tot) := by
  by_cases z : kn = 0
  · exact br_t z ⟨730, wn_Y10 post hk (h 1) 729 0 tot (by decide) (fun j hj => absurd hj (by omega))⟩
  · exact br_f z (h kn tot (hT z))
theorem wn_Y9 (post : Int32 → SY → Prop) (hk : wn_ok t vc pc tx ty) (hT : ∀ j, j < 729 → tot j = wn_c t vc pc tx ty j) : ∀ (r i : Nat) (o : Option Nat), i + r = 729 → wn_P (wn_c t vc pc tx ty) i o → post (wn_o1 (wn_F (wn_c t vc pc tx ty) r i o)) (nI t, kn, vc, tx, ty, pc, tot) → wY_first_9 post (nI t) kn vc tx ty pc tot (r + 1) (wn_o1 o) (nI i) := by
  intro r
  induction r with
  | zero => exact fun i o hi _ h => br_t (nI_le (a := 729) (by omega) (by omega)) h
  | succ r ih =>
    intro i o hi hP h
    have hN := wn_fs_P hP
    have hc := wn_v_neg (wn_c_v hk i)
    have hv : vp_in (nI i) 729 := vp_in_nI (by omega) (by decide)
    have ei : tot (nI i).toNatClampNeg = wn_c t vc pc tx ty i := by
      rw [nI_clamp (by omega)]
      exact hT i (by omega)
    rw [wn_F] at h
    refine br_f (nI_ge (b := 729) (by omega) (by decide)) ⟨hv, ?_⟩
    rw [ei]
    by_cases z : wn_c t vc pc tx ty i = -6
    · rw [wn_fs_n6 z] at h hN
      exact br_t (hc.mpr z) (nm_r (nI_1 i) (ih (i + 1) o (by omega) hN h))
    · refine br_f (fun y => z (hc.mp y)) ?_
      cases o with
      | none =>
        rw [wn_fs_n z] at h hN
        exact br_t (by decide) (nm_r (nI_1 i) (ih (i + 1) (some i) (by omega) hN h))
      | some m =>
        have hm := (hP.2 m rfl).1
        have em : tot (wn_o1 (some m)).toNatClampNeg = wn_c t vc pc tx ty m := by
          rw [wn_o1, nI_clamp (by omega)]
          exact hT m (by omega)
        refine br_f (nI_pos (n := m) (by omega)) ⟨hv, vp_in_nI (n := m) (by omega) (by decide), ?_⟩
        rw [em]
        by_cases y : wn_c t vc pc tx ty m ≤ wn_c t vc pc tx ty i
        · rw [wn_fs_le z y] at h hN
          exact br_t y (nm_r (nI_1 i) (ih (i + 1) (some m) (by omega) hN h))
        · rw [wn_fs_gt z y] at h hN
          exact br_f y (nm_r (nI_1 i) (ih (i + 1) (some i) (by omega) hN h))
theorem wn_Yf {post : Int32 → SY → Prop} (hk : wn_ok t vc pc tx ty) (hT : wn_T t kn vc pc tx ty tot)
    (h : ∀ (kn' : Int32) (tot' : Nat → Int32), (∀ j, j < 729 → tot' j = wn_c t vc pc tx ty j) → post (wn_o1 (wn_B (wn_c t vc pc tx ty))) (nI t, kn', vc, tx, ty, pc, tot')) : wpY_first post (nI t, kn, vc, tx, ty, pc, tot) := by
  unfold wpY_first
  dsimp only
  refine wn_Yw hk hT (fun kn' tot' hT' => ?_)
  exact ⟨730, wn_Y9 post hk hT' 729 0 none (by decide) (wn_P0 _) (h kn' tot' hT')⟩
theorem wn_Yl {post : Int32 → SY → Prop} (hk : wn_ok t vc pc tx ty) (hT : wn_T t kn vc pc tx ty tot)
    (h : ∀ (kn' : Int32) (tot' : Nat → Int32), (∀ j, j < 729 → tot' j = wn_c t vc pc tx ty j) → post (wn_L (wn_c t vc pc tx ty)) (nI t, kn', vc, tx, ty, pc, tot')) : wpY_least post (nI t, kn, vc, tx, ty, pc, tot) := by
  have hP := wn_B_P (wn_c t vc pc tx ty)
  unfold wn_L at h
  unfold wpY_least
  dsimp only
  refine wn_Yf hk hT (fun kn' tot' hT' => ?_)
  have h' := h kn' tot' hT'
  generalize wn_B (wn_c t vc pc tx ty) = o at hP h'
  cases o with
  | none => exact br_f (by decide) h'
  | some j =>
    have hj := (hP.2 j rfl).1
    have em : tot' (wn_o1 (some j)).toNatClampNeg = wn_c t vc pc tx ty j := by
      rw [wn_o1, nI_clamp (by omega)]
      exact hT' j (by omega)
    refine br_t (nI_pos' (n := j) (by omega)) ⟨vp_in_nI (n := j) (by omega) (by decide), ?_⟩
    dsimp only
    rw [em]
    exact h'
theorem wn_Y66a (post : Int32 → SY → Prop) {J : Int32 → Int32 → Prop} {x1 x2 b : Int32} {i : Nat} (h : J b (nI (i + 1))) : wY_leastWith_65 post J x1 x2 b (nI i) (nI t) kn vc tx ty pc tot :=
  br_t rfl (nm_r (nI_1 i) h)
theorem wn_Y32 (post : Int32 → SY → Prop) (hk : wn_ok t vc pc tx ty) (hT : ∀ j, j < 729 → tot j = wn_c t vc pc tx ty j) {x : Nat} (hx : x < 6) (y : Int32) : ∀ (r i : Nat) (b : Int32), i + r = 729 → wn_v b → post (wn_W (wn_c t vc pc tx ty) (fun k => decide (nI (wn_dg (5 - x) k) = y)) r i b) (nI t, kn, vc, tx, ty, pc, tot) → wY_leastWith_32 post (nI x) y (nI t) kn vc tx ty pc tot (r + 1) b (nI i) := by
  intro r
  induction r with
  | zero => exact fun i b hi _ h => br_t (nI_le (a := 729) (by omega) (by omega)) h
  | succ r ih =>
    intro i b hi hb h
    have hc := wn_v_neg (wn_c_v hk i)
    have hb6 := wn_v_neg hb
    have hN := wn_ws_v (p := fun k => decide (nI (wn_dg (5 - x) k) = y)) (wn_c_v hk i) hb
    have hv : vp_in (nI i) 729 := vp_in_nI (by omega) (by decide)
    have ei : tot (nI i).toNatClampNeg = wn_c t vc pc tx ty i := by
      rw [nI_clamp (by omega)]
      exact hT i (by omega)
    rw [wn_W] at h
    unfold wn_ws at h hN
    refine br_f (nI_ge (b := 729) (by omega) (by decide)) ⟨hv, ?_⟩
    rw [ei]
    by_cases z : wn_c t vc pc tx ty i = -6
    · rw [if_pos z, ite_self] at h hN
      exact br_t (hc.mpr z) (wn_Y66a post (ih (i + 1) b (by omega) hb h))
    · refine br_f (fun w => z (hc.mp w)) (wn_Yv (by omega) hx ?_)
      by_cases p : nI (wn_dg (5 - x) i) = y
      · rw [if_pos (decide_eq_true p), if_neg z] at h hN
        refine br_t p (br_f (by decide) ?_)
        by_cases q : b = -6
        · rw [if_pos q] at h hN
          exact br_t (hb6.mpr q) ⟨hv, nm_r ei (nm_r (nI_1 i) (ih (i + 1) _ (by omega) hN h))⟩
        · rw [if_neg q] at h hN
          refine br_f (fun w => q (hb6.mp w)) ⟨hv, ?_⟩
          by_cases w : b ≤ wn_c t vc pc tx ty i
          · rw [if_pos w] at h hN
            exact br_t (ei.symm ▸ w) (nm_r (nI_1 i) (ih (i + 1) _ (by omega) hN h))
          · rw [if_neg w] at h hN
            exact br_f (ei.symm ▸ w) ⟨hv, nm_r ei (nm_r (nI_1 i) (ih (i + 1) _ (by omega) hN h))⟩
      · rw [if_neg (fun e => p (of_decide_eq_true e))] at h hN
        exact br_f p (wn_Y66a post (ih (i + 1) b (by omega) hb h))
theorem wn_Y8 (post : Int32 → SY → Prop) (hT : ∀ j, j < 729 → tot j = wn_c t vc pc tx ty j) (y : Int32) : ∀ (r i : Nat) (n : Int32), i + r = 729 → post (wn_N (fun k => decide (¬ wn_c t vc pc tx ty k < 0 ∧ ¬ y < wn_c t vc pc tx ty k)) r i n) (nI t, kn, vc, tx, ty, pc, tot) → wY_upTo_8 post y (nI t) kn vc tx ty pc tot (r + 1) n (nI i) := by
  intro r
  induction r with
  | zero => exact fun i b hi h => br_t (nI_le (a := 729) (by omega) (by omega)) h
  | succ r ih =>
    intro i n hi h
    have hv : vp_in (nI i) 729 := vp_in_nI (by omega) (by decide)
    have ei : tot (nI i).toNatClampNeg = wn_c t vc pc tx ty i := by
      rw [nI_clamp (by omega)]
      exact hT i (by omega)
    rw [wn_N] at h
    refine br_f (nI_ge (b := 729) (by omega) (by decide)) ⟨hv, ?_⟩
    rw [ei]
    by_cases p : wn_c t vc pc tx ty i < 0
    · rw [if_neg (fun e => (of_decide_eq_true e).1 p)] at h
      exact br_t p (nm_r (nI_1 i) (ih (i + 1) _ (by omega) h))
    · refine br_f p ⟨hv, ?_⟩
      by_cases q : y < wn_c t vc pc tx ty i
      · rw [if_neg (fun e => (of_decide_eq_true e).2 q)] at h
        exact br_t q (nm_r (nI_1 i) (ih (i + 1) _ (by omega) h))
      · rw [if_pos (decide_eq_true ⟨p, q⟩)] at h
        exact br_f q (nm_e (nm_r (nI_1 i) (ih (i + 1) _ (by omega) h)))
/-- how many cost no more than y -/
def wn_U (t : Nat) (vc pc tx ty : Nat → Int32) (y : Int32) : Int32 := wn_N (fun k => decide (¬ wn_c t vc pc tx ty k < 0 ∧ ¬ y < wn_c t vc pc tx ty k)) 729 0 0
theorem wn_Yu {post : Int32 → SY → Prop} (hk : wn_ok t vc pc tx ty) (hT : wn_T t kn vc pc tx ty tot) (y : Int32)
    (h : ∀ (kn' : Int32) (tot' : Nat → Int32), (∀ j, j < 729 → tot' j = wn_c t vc pc tx ty j) → post (wn_U t vc pc tx ty y) (nI t, kn', vc, tx, ty, pc, tot')) : wpY_upTo post (nI t, kn, vc, tx, ty, pc, tot) y := by
  unfold wpY_upTo
  dsimp only
  refine wn_Yw hk hT (fun kn' tot' hT' => ?_)
  exact ⟨730, wn_Y8 post hT' y 729 0 0 (by decide) (h kn' tot' hT')⟩
theorem wn_Y26 (post : Int32 → SY → Prop) (hT : ∀ j, j < 729 → tot j = wn_c t vc pc tx ty j) {x z : Nat} (hx : x < 6) (hz : z < 6) (y : Int32) : ∀ (r i : Nat), i + r = 729 → post (wn_A (fun k => decide (¬ y < 0 ∧ nI (wn_dg (5 - x) k) = nI (wn_dg (5 - z) k) ∧ wn_c t vc pc tx ty k = y)) r i) (nI t, kn, vc, tx, ty, pc, tot) → wY_canAgree_26 post (nI x) (nI z) y (nI t) kn vc tx ty pc tot (r + 1) (nI i) := by
  intro r
  induction r with
  | zero => exact fun i hi h => br_t (nI_le (a := 729) (by omega) (by omega)) h
  | succ r ih =>
    intro i hi h
    have hv : vp_in (nI i) 729 := vp_in_nI (by omega) (by decide)
    have ei : tot (nI i).toNatClampNeg = wn_c t vc pc tx ty i := by
      rw [nI_clamp (by omega)]
      exact hT i (by omega)
    rw [wn_A] at h
    refine br_f (nI_ge (b := 729) (by omega) (by decide)) ?_
    by_cases w : y < 0
    · rw [if_neg (fun e => (of_decide_eq_true e).1 w)] at h
      exact br_t w (nm_r (nI_1 i) (ih (i + 1) (by omega) h))
    · refine br_f w ⟨hv, ?_⟩
      rw [ei]
      by_cases q : wn_c t vc pc tx ty i = y
      · refine br_t q (wn_Yv (by omega) hx (wn_Yv (by omega) hz ?_))
        by_cases p : nI (wn_dg (5 - x) i) = nI (wn_dg (5 - z) i)
        · rw [if_pos (decide_eq_true ⟨w, p, q⟩)] at h
          exact br_t p h
        · rw [if_neg (fun e => p (of_decide_eq_true e).2.1)] at h
          exact br_f p (nm_r (nI_1 i) (ih (i + 1) (by omega) h))
      · rw [if_neg (fun e => q (of_decide_eq_true e).2.2)] at h
        exact br_f q (nm_r (nI_1 i) (ih (i + 1) (by omega) h))
theorem wn_Yt57 (post : Int32 → SY → Prop) (ht : t < 8) : ∀ (r i : Nat) (pc : Nat → Int32), i + r = 9 → post (nI t) (nI (t + 1), 0, vc, tx, ty, wn_Z t r i pc, tot) → wY_table_57 post (nI t) kn (r + 1) (nI i) vc tx ty pc tot := by
  intro r
  induction r with
  | zero =>
    intro i pc hi h
    refine br_t (nI_le (a := 9) (by omega) (by omega)) (nm_r (nI_1 t) ?_)
    rw [nI_pred]
    exact h
  | succ r ih =>
    intro i pc hi h
    have en : nI t * 9 + nI i = nI (t * 9 + i) := by
      rw [show (9 : Int32) = nI 9 from rfl, pk_mul, nI_add]
    refine br_f (nI_ge (b := 9) (by omega) (by decide)) ?_
    rw [en, nI_clamp (by omega)]
    exact ⟨vp_in_nI (by omega) (by decide), nm_e (nm_r (nI_1 i) (ih (i + 1) _ (by omega) h))⟩
theorem wn_YvB {post : Int32 → Prop} {v : SY} {x : Int32} (hx : x < 0 ∨ (¬ x < 0 ∧ nI 6 ≤ x)) (h : post 0) : wpY_isVariable post v x := by
  rcases hx with a | ⟨a, b⟩
  · exact br_t a h
  · exact br_f a (br_t b h)
theorem wn_YvG {post : Int32 → Prop} {v : SY} {j : Nat} (hj : j < 6) (h : post 1) : wpY_isVariable post v (nI j) :=
  br_f (nI_pos (by omega)) (br_f (nI_ge (b := 6) hj (by decide)) h)
end
