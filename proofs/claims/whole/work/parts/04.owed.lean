/-- both keep the same costs, tables and count; the reference's totals are right where it says that it knows them -/
def i_Rel (_ : Nat) (u : SX) (v : SY) : Prop := ∃ (t : Nat) (kn : Int32) (vc pc tx ty tot : Nat → Int32),
  wn_ok t vc pc tx ty ∧ wn_T t kn vc pc tx ty tot ∧ u = (nI t, vc, pc, tx, ty) ∧ v = (nI t, kn, vc, tx, ty, pc, tot)
theorem wn_R {k t : Nat} {kn : Int32} {vc pc tx ty tot : Nat → Int32} (hk : wn_ok t vc pc tx ty) (hT : wn_T t kn vc pc tx ty tot) : i_Rel k (nI t, vc, pc, tx, ty) (nI t, kn, vc, tx, ty, pc, tot) :=
  ⟨t, kn, vc, pc, tx, ty, tot, hk, hT, rfl, rfl⟩
theorem wn_RT {k t : Nat} {kn : Int32} {vc pc tx ty tot : Nat → Int32} (hk : wn_ok t vc pc tx ty) (hT : ∀ j, j < 729 → tot j = wn_c t vc pc tx ty j) : i_Rel k (nI t, vc, pc, tx, ty) (nI t, kn, vc, tx, ty, pc, tot) :=
  wn_R hk (fun _ => hT)
theorem wn_R0 {k t : Nat} {vc pc tx ty tot : Nat → Int32} (hk : wn_ok t vc pc tx ty) : i_Rel k (nI t, vc, pc, tx, ty) (nI t, 0, vc, tx, ty, pc, tot) :=
  wn_R hk (fun z => absurd rfl z)
theorem i_up {k : Nat} {u : SX} {v : SY} (h : i_Rel k u v) : i_Rel (k + 4) u v := h
theorem i_vc0 : wpX_init (fun u => wpY_init (fun v => i_Rel 0 u v)) :=
  wn_R0 (k := 0) (t := 0) ⟨by decide, fun _ _ => ⟨0, by decide, rfl⟩, fun _ _ => ⟨0, by decide, rfl⟩, fun _ _ => ⟨0, by decide, rfl⟩, fun _ _ => ⟨0, by decide, rfl⟩⟩
theorem i_vc_cost {k : Nat} {u : SX} {v : SY} (I : i_Rel k u v) (hk : k + 4 ≤ 2048) (v1 : Int32) (v2 : Int32) (v3 : Int32) : wpX_cost (fun r u' => wpY_cost (fun r' v' => r' = r ∧ i_Rel (k + 4) u' v') v v1 v2 v3) u v1 v2 v3 := by
  obtain ⟨t, kn, vc, pc, tx, ty, tot, ok, hT, rfl, rfl⟩ := I
  unfold wpX_cost wpY_cost
  dsimp only
  rcases wn_arg v1 6 (by decide) with b | ⟨j, hj, rfl⟩
  · refine wn_XvB b (br_t rfl ?_)
    refine wn_YvB b (br_t rfl ?_)
    exact ⟨rfl, wn_R ok hT⟩
  · refine wn_XvG hj (br_f (by decide) ?_)
    rcases wn_arg v2 3 (by decide) with b | ⟨m, hm, rfl⟩
    · refine wn_XuB b (br_t rfl ?_)
      refine wn_YvG hj (br_f (by decide) ?_)
      rcases b with b | ⟨b, d⟩
      · exact br_t b ⟨rfl, wn_R ok hT⟩
      · exact br_f b (br_f (wn_nle (n := 2) (by decide) d) ⟨rfl, wn_R ok hT⟩)
    · refine wn_XuG hm (br_f (by decide) ?_)
      rcases wn_arg v3 21 (by decide) with b | ⟨q, hq, rfl⟩
      · refine wn_XkB b (br_t rfl ?_)
        refine wn_YvG hj (br_f (by decide) (br_f (nI_pos (by omega)) (br_t (nI_le (b := 2) (by omega) (by decide)) ?_)))
        rcases b with b | ⟨b, d⟩
        · exact br_t b ⟨rfl, wn_R ok hT⟩
        · exact br_f b (br_f (wn_nle (n := 20) (by decide) d) ⟨rfl, wn_R ok hT⟩)
      · refine wn_XkG hq (br_f (by decide) ?_)
        have en : nI j * 3 + nI m = nI (j * 3 + m) := by
          rw [show (3 : Int32) = nI 3 from rfl, pk_mul, nI_add]
        have hi : vp_in (nI (j * 3 + m)) 18 := vp_in_nI (by omega) (by decide)
        rw [en]
        refine nm_e ⟨hi, nm_e ⟨hi, nm_e ?_⟩⟩
        refine wn_YvG hj (br_f (by decide) (br_f (nI_pos (by omega)) (br_t (nI_le (b := 2) (by omega) (by decide)) (br_f (nI_pos (by omega)) (br_t (nI_le (b := 20) (by omega) (by decide)) ?_)))))
        rw [nI_clamp (by omega)]
        refine ⟨hi, nm_e ⟨hi, nm_e ⟨rfl, wn_R0 ?_⟩⟩⟩
        exact ⟨ok.1, wn_upd_k ok.2.1 ⟨q, by omega, rfl⟩, ok.2.2⟩
theorem i_vc_table {k : Nat} {u : SX} {v : SY} (I : i_Rel k u v) (hk : k + 4 ≤ 2048) (v1 : Int32) (v2 : Int32) : wpX_table (fun r u' => wpY_table (fun r' v' => r' = r ∧ i_Rel (k + 4) u' v') v v1 v2) u v1 v2 := by
  obtain ⟨t, kn, vc, pc, tx, ty, tot, ok, hT, rfl, rfl⟩ := I
  have ht := ok.1
  unfold wpX_table wpY_table
  dsimp only
  rcases wn_arg v1 6 (by decide) with b | ⟨j, hj, rfl⟩
  · refine wn_XvB b (br_t rfl ?_)
    refine wn_YvB b (br_t rfl ?_)
    exact ⟨rfl, wn_R ok hT⟩
  · refine wn_XvG hj (br_f (by decide) ?_)
    rcases wn_arg v2 6 (by decide) with b | ⟨m, hm, rfl⟩
    · refine wn_XvB b (br_t rfl ?_)
      refine wn_YvG hj (br_f (by decide) ?_)
      refine wn_YvB b (br_t rfl ?_)
      exact ⟨rfl, wn_R ok hT⟩
    · refine wn_XvG hm (br_f (by decide) ?_)
      by_cases e : nI j = nI m
      · refine br_t e ?_
        refine wn_YvG hj (br_f (by decide) ?_)
        refine wn_YvG hm (br_f (by decide) (br_t e ?_))
        exact ⟨rfl, wn_R ok hT⟩
      · refine br_f e ?_
        by_cases h8 : t < 8
        · have hi : vp_in (nI t) 8 := vp_in_nI h8 (by decide)
          refine br_t (nI_lt (b := 8) h8 (by decide)) ?_
          rw [nI_clamp (by omega)]
          refine ⟨hi, nm_e ⟨hi, nm_e ⟨10, wn_Xt55 _ h8 9 0 pc (by decide) ?_⟩⟩⟩
          refine wn_YvG hj (br_f (by decide) ?_)
          refine wn_YvG hm (br_f (by decide) (br_f e ?_))
          refine br_f (fun z => absurd ((nI_eq (b := 8) (by omega) (by decide)).mp z) (by omega)) ?_
          refine ⟨hi, nm_e ⟨hi, nm_e ⟨10, wn_Yt57 _ h8 9 0 pc (by decide) ?_⟩⟩⟩
          refine ⟨rfl, wn_R0 ?_⟩
          exact ⟨by omega, ok.2.1, wn_Z_k t 9 0 pc ok.2.2.1, wn_upd_x ok.2.2.2.1 ⟨j, hj, rfl⟩, wn_upd_x ok.2.2.2.2 ⟨m, hm, rfl⟩⟩
        · obtain rfl : t = 8 := by omega
          refine br_f (nI_nlt (a := 8) (b := 8) (by omega) (by decide)) ?_
          refine wn_YvG hj (br_f (by decide) ?_)
          refine wn_YvG hm (br_f (by decide) (br_f e (br_t rfl ?_)))
          exact ⟨rfl, wn_R ok hT⟩
theorem i_vc_pair {k : Nat} {u : SX} {v : SY} (I : i_Rel k u v) (hk : k + 4 ≤ 2048) (v1 : Int32) (v2 : Int32) (v3 : Int32) : wpX_pair (fun r u' => wpY_pair (fun r' v' => r' = r ∧ i_Rel (k + 4) u' v') v v1 v2 v3) u v1 v2 v3 := by
  obtain ⟨t, kn, vc, pc, tx, ty, tot, ok, hT, rfl, rfl⟩ := I
  have ht := ok.1
  unfold wpX_pair wpY_pair
  dsimp only
  rcases wn_arg v1 t (by omega) with (b | ⟨b, d⟩) | ⟨j, hj, rfl⟩
  · exact br_t b (br_t b ⟨rfl, wn_R ok hT⟩)
  · exact br_f b (br_f (wn_nlt d) (br_f b (br_f (wn_nlt d) ⟨rfl, wn_R ok hT⟩)))
  · have a1 : ¬ nI j < 0 := nI_pos (by omega)
    have a2 : nI j < nI t := nI_lt hj (by omega)
    refine br_f a1 (br_t a2 ?_)
    rcases wn_arg v2 9 (by decide) with (b | ⟨b, d⟩) | ⟨m, hm, rfl⟩
    · exact br_t b (br_f a1 (br_t a2 (br_t b ⟨rfl, wn_R ok hT⟩)))
    · exact br_f b (br_f (wn_nlt (n := 9) d) (br_f a1 (br_t a2 (br_f b (br_f (wn_nle (n := 8) (by decide) d) ⟨rfl, wn_R ok hT⟩)))))
    · have b1 : ¬ nI m < 0 := nI_pos (by omega)
      have b2 : nI m < 9 := nI_lt (b := 9) hm (by decide)
      have b3 : nI m ≤ 8 := nI_le (b := 8) (by omega) (by decide)
      refine br_f b1 (br_t b2 ?_)
      rcases wn_arg v3 21 (by decide) with b | ⟨q, hq, rfl⟩
      · refine wn_XkB b (br_t rfl ?_)
        refine br_f a1 (br_t a2 (br_f b1 (br_t b3 ?_)))
        rcases b with b | ⟨b, d⟩
        · exact br_t b ⟨rfl, wn_R ok hT⟩
        · exact br_f b (br_f (wn_nle (n := 20) (by decide) d) ⟨rfl, wn_R ok hT⟩)
      · refine wn_XkG hq (br_f (by decide) ?_)
        have en : nI j * 9 + nI m = nI (j * 9 + m) := by
          rw [show (9 : Int32) = nI 9 from rfl, pk_mul, nI_add]
        have hi : vp_in (nI (j * 9 + m)) 72 := vp_in_nI (by omega) (by decide)
        rw [en]
        refine nm_e ⟨hi, nm_e ⟨hi, nm_e ?_⟩⟩
        refine br_f a1 (br_t a2 (br_f b1 (br_t b3 (br_f (nI_pos (by omega)) (br_t (nI_le (b := 20) (by omega) (by decide)) ?_)))))
        rw [nI_clamp (by omega)]
        refine ⟨hi, nm_e ⟨hi, nm_e ⟨rfl, wn_R0 ?_⟩⟩⟩
        exact ⟨ok.1, ok.2.1, wn_upd_k ok.2.2.1 ⟨q, by omega, rfl⟩, ok.2.2.2⟩
theorem i_vc_drop {k : Nat} {u : SX} {v : SY} (I : i_Rel k u v) (hk : k + 4 ≤ 2048) : wpX_drop (fun r u' => wpY_drop (fun r' v' => r' = r ∧ i_Rel (k + 4) u' v') v) u := by
  obtain ⟨t, kn, vc, pc, tx, ty, tot, ok, hT, rfl, rfl⟩ := I
  have ht := ok.1
  cases t with
  | zero => exact br_t rfl (br_t rfl ⟨rfl, wn_R ok hT⟩)
  | succ t =>
    have z : ¬ nI (t + 1) = 0 := nI_ne0 (by omega) (by omega)
    refine br_f z (nm_r (nI_pred t) (br_f z (nm_r (nI_pred t) ⟨rfl, wn_R0 ?_⟩)))
    exact ⟨by omega, ok.2⟩
theorem i_vc_least {k : Nat} {u : SX} {v : SY} (I : i_Rel k u v) (hk : k + 4 ≤ 2048) : wpX_least (fun r => wpY_least (fun r' v' => r' = r ∧ i_Rel (k + 4) u v') v) u := by
  obtain ⟨t, kn, vc, pc, tx, ty, tot, ok, hT, rfl, rfl⟩ := I
  exact wn_Xl ok (wn_Yl ok hT (fun kn' tot' hT' => ⟨rfl, wn_RT ok hT'⟩))
theorem i_vc_value {k : Nat} {u : SX} {v : SY} (I : i_Rel k u v) (hk : k + 4 ≤ 2048) (v1 : Int32) : wpX_value (fun r => wpY_value (fun r' v' => r' = r ∧ i_Rel (k + 4) u v') v v1) u v1 := by
  obtain ⟨t, kn, vc, pc, tx, ty, tot, ok, hT, rfl, rfl⟩ := I
  unfold wpX_value wpY_value
  dsimp only
  rcases wn_arg v1 6 (by decide) with b | ⟨j, hj, rfl⟩
  · refine wn_XvB b (br_t rfl ?_)
    refine wn_YvB b (br_t rfl ?_)
    exact ⟨rfl, wn_R ok hT⟩
  · refine wn_XvG hj (br_f (by decide) ?_)
    have hP := wn_B_P (wn_c t vc pc tx ty)
    refine wn_Xf ok ?_
    cases e : wn_B (wn_c t vc pc tx ty) with
    | none =>
      refine br_t rfl ?_
      refine wn_YvG hj (br_f (by decide) ?_)
      refine wn_Yf ok hT (fun kn' tot' hT' => ?_)
      rw [e]
      exact br_f (by decide) ⟨rfl, wn_RT ok hT'⟩
    | some m =>
      have hm := (hP.2 m e).1
      refine br_f (wn_n6 (j := m) (by omega)) ?_
      refine wn_Xv hm hj ?_
      refine wn_YvG hj (br_f (by decide) ?_)
      refine wn_Yf ok hT (fun kn' tot' hT' => ?_)
      rw [e]
      refine br_t (nI_pos' (n := m) (by omega)) ?_
      exact wn_Yv hm hj ⟨rfl, wn_RT ok hT'⟩
theorem i_vc_leastWith {k : Nat} {u : SX} {v : SY} (I : i_Rel k u v) (hk : k + 4 ≤ 2048) (v1 : Int32) (v2 : Int32) : wpX_leastWith (fun r => wpY_leastWith (fun r' v' => r' = r ∧ i_Rel (k + 4) u v') v v1 v2) u v1 v2 := by
  obtain ⟨t, kn, vc, pc, tx, ty, tot, ok, hT, rfl, rfl⟩ := I
  unfold wpX_leastWith wpY_leastWith
  dsimp only
  rcases wn_arg v1 6 (by decide) with b | ⟨j, hj, rfl⟩
  · refine wn_XvB b (br_t rfl ?_)
    refine wn_YvB b (br_t rfl ?_)
    exact ⟨rfl, wn_R ok hT⟩
  · refine wn_XvG hj (br_f (by decide) ?_)
    rcases wn_arg v2 3 (by decide) with b | ⟨m, hm, rfl⟩
    · refine wn_XuB b (br_t rfl ?_)
      refine wn_YvG hj (br_f (by decide) ?_)
      rcases b with b | ⟨b, d⟩
      · exact br_t b ⟨rfl, wn_R ok hT⟩
      · exact br_f b (br_f (wn_nle (n := 2) (by decide) d) ⟨rfl, wn_R ok hT⟩)
    · refine wn_XuG hm (br_f (by decide) ⟨730, wn_X25 _ ok hj (nI m) 729 0 (-6) (by decide) ?_⟩)
      refine wn_YvG hj (br_f (by decide) (br_f (nI_pos (by omega)) (br_t (nI_le (b := 2) (by omega) (by decide)) ?_)))
      refine wn_Yw ok hT (fun kn' tot' hT' => ?_)
      exact ⟨730, wn_Y32 _ ok hT' hj (nI m) 729 0 (-6) (by decide) (Or.inl rfl) ⟨rfl, wn_RT ok hT'⟩⟩
/-- as many are as cheap as the least as cost no more -/
theorem wn_tie {t : Nat} {vc pc tx ty : Nat → Int32} (ok : wn_ok t vc pc tx ty) {m : Nat} (e : wn_B (wn_c t vc pc tx ty) = some m) : wn_U t vc pc tx ty (wn_c t vc pc tx ty m) = wn_N (fun k => decide (wn_c t vc pc tx ty k = wn_c t vc pc tx ty m)) 729 0 0 := by
  obtain ⟨hm, zm, hl⟩ := (wn_B_P (wn_c t vc pc tx ty)).2 m e
  refine wn_N_c 729 0 0 (fun i _ hi => decide_eq_decide.mpr ?_)
  have hn := wn_v_neg (wn_c_v ok i)
  constructor
  · intro ⟨h1, h2⟩
    have h3 := hl i (by omega) (fun z => h1 (hn.mpr z))
    rw [Int32.le_iff_toInt_le] at h3
    rw [Int32.lt_iff_toInt_lt] at h2
    exact Int32.toInt_inj.mp (by omega)
  · intro h
    rw [hn, h]
    exact ⟨zm, Int32.lt_irrefl⟩
theorem i_vc_ties {k : Nat} {u : SX} {v : SY} (I : i_Rel k u v) (hk : k + 4 ≤ 2048) : wpX_ties (fun r => wpY_ties (fun r' v' => r' = r ∧ i_Rel (k + 4) u v') v) u := by
  obtain ⟨t, kn, vc, pc, tx, ty, tot, ok, hT, rfl, rfl⟩ := I
  unfold wpX_ties wpY_ties
  dsimp only
  refine wn_Xl ok ?_
  have hv := wn_v_neg (wn_L_v (wn_c_v ok))
  cases e : wn_B (wn_c t vc pc tx ty) with
  | none =>
    have el : wn_L (wn_c t vc pc tx ty) = -6 := by unfold wn_L; rw [e]; rfl
    refine br_t el ?_
    refine wn_Yl ok hT (fun kn' tot' hT' => ?_)
    rw [el]
    exact br_f (by decide) ⟨rfl, wn_RT ok hT'⟩
  | some m =>
    have el : wn_L (wn_c t vc pc tx ty) = wn_c t vc pc tx ty m := by unfold wn_L; rw [e]; rfl
    have zm := ((wn_B_P (wn_c t vc pc tx ty)).2 m e).2.1
    have nz : ¬ wn_c t vc pc tx ty m < 0 := fun z => zm ((wn_v_neg (wn_c_v ok m)).mp z)
    rw [el]
    refine br_f zm ⟨730, wn_X17 _ ok _ 729 0 0 (by decide) ?_⟩
    refine wn_Yl ok hT (fun kn' tot' hT' => ?_)
    rw [el]
    refine br_t (Int32.not_lt.mp nz) ?_
    refine wn_Yu ok (fun _ => hT') _ (fun kn2 tot2 hT2 => ?_)
    exact ⟨wn_tie ok e, wn_RT ok hT2⟩
theorem i_vc_allowed {k : Nat} {u : SX} {v : SY} (I : i_Rel k u v) (hk : k + 4 ≤ 2048) : wpX_allowed (fun r => wpY_allowed (fun r' v' => r' = r ∧ i_Rel (k + 4) u v') v) u := by
  obtain ⟨t, kn, vc, pc, tx, ty, tot, ok, hT, rfl, rfl⟩ := I
  unfold wpX_allowed wpY_allowed
  dsimp only
  refine ⟨730, wn_Xa4 _ ok 729 0 0 (by decide) ?_⟩
  refine wn_Yu ok hT _ (fun kn' tot' hT' => ?_)
  refine ⟨?_, wn_RT ok hT'⟩
  refine wn_N_c 729 0 0 (fun i _ hi => decide_eq_decide.mpr ?_)
  rw [wn_v_neg (wn_c_v ok i)]
  exact ⟨fun h => h.1, fun h => ⟨h, wn_v_le (wn_c_v ok i)⟩⟩
theorem i_vc_upTo {k : Nat} {u : SX} {v : SY} (I : i_Rel k u v) (hk : k + 4 ≤ 2048) (v1 : Int32) : wpX_upTo (fun r => wpY_upTo (fun r' v' => r' = r ∧ i_Rel (k + 4) u v') v v1) u v1 := by
  obtain ⟨t, kn, vc, pc, tx, ty, tot, ok, hT, rfl, rfl⟩ := I
  refine ⟨730, wn_Xu4 _ ok v1 729 0 0 (by decide) ?_⟩
  refine wn_Yu ok hT _ (fun kn' tot' hT' => ?_)
  refine ⟨?_, wn_RT ok hT'⟩
  refine wn_N_c 729 0 0 (fun i _ hi => decide_eq_decide.mpr ?_)
  rw [wn_v_neg (wn_c_v ok i)]
theorem i_vc_canAgree {k : Nat} {u : SX} {v : SY} (I : i_Rel k u v) (hk : k + 4 ≤ 2048) (v1 : Int32) (v2 : Int32) : wpX_canAgree (fun r => wpY_canAgree (fun r' v' => r' = r ∧ i_Rel (k + 4) u v') v v1 v2) u v1 v2 := by
  obtain ⟨t, kn, vc, pc, tx, ty, tot, ok, hT, rfl, rfl⟩ := I
  unfold wpX_canAgree wpY_canAgree
  dsimp only
  rcases wn_arg v1 6 (by decide) with b | ⟨j, hj, rfl⟩
  · refine wn_XvB b (br_t rfl ?_)
    refine wn_YvB b (br_t rfl ?_)
    exact ⟨rfl, wn_R ok hT⟩
  · refine wn_XvG hj (br_f (by decide) ?_)
    rcases wn_arg v2 6 (by decide) with b | ⟨m, hm, rfl⟩
    · refine wn_XvB b (br_t rfl ?_)
      refine wn_YvG hj (br_f (by decide) ?_)
      refine wn_YvB b (br_t rfl ?_)
      exact ⟨rfl, wn_R ok hT⟩
    · refine wn_XvG hm (br_f (by decide) (wn_Xl ok ?_))
      have hv := wn_v_neg (wn_L_v (wn_c_v ok))
      by_cases z : wn_L (wn_c t vc pc tx ty) = -6
      · refine br_t z ?_
        refine wn_YvG hj (br_f (by decide) ?_)
        refine wn_YvG hm (br_f (by decide) ?_)
        refine wn_Yl ok hT (fun kn' tot' hT' => ?_)
        refine ⟨730, wn_Y26 _ hT' hj hm _ 729 0 (by decide) ⟨?_, wn_RT ok hT'⟩⟩
        have e0 : ∀ r i : Nat, wn_A (fun _ => false) r i = 0 := by
          intro r
          induction r with
          | zero => exact fun _ => rfl
          | succ r ih => exact fun i => ih (i + 1)
        rw [← e0 729 0]
        exact wn_A_c 729 0 (fun i _ _ => decide_eq_false (fun h => h.1 (hv.mpr z)))
      · refine br_f z ⟨730, wn_X32 _ ok hj hm _ 729 0 (by decide) ?_⟩
        refine wn_YvG hj (br_f (by decide) ?_)
        refine wn_YvG hm (br_f (by decide) ?_)
        refine wn_Yl ok hT (fun kn' tot' hT' => ?_)
        refine ⟨730, wn_Y26 _ hT' hj hm _ 729 0 (by decide) ⟨?_, wn_RT ok hT'⟩⟩
        exact wn_A_c 729 0 (fun i _ _ => decide_eq_decide.mpr ⟨fun h => h.2, fun h => ⟨fun w => z (hv.mp w), h⟩⟩)
