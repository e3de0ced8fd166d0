section
theorem pk_us {f : Nat → Int32} {k : Nat} {x : Int32} : upd f k x k = x := if_pos rfl
theorem pk_un {f : Nat → Int32} {k j : Nat} {x : Int32} (h : j ≠ k) : upd f k x j = f j := if_neg h
theorem pk_sub {a b : Nat} (h : b ≤ a) : nI a - nI b = nI (a - b) := by
  obtain ⟨c, rfl⟩ : ∃ c, a = c + b := ⟨a - b, by omega⟩
  rw [← nI_add, Int32.add_sub_cancel, Nat.add_sub_cancel]
theorem pk_m1 (n : Nat) : nI (n + 1) + (-1) = nI n := by
  rw [← nI_1, Int32.add_assoc, show (1 : Int32) + (-1) = 0 from rfl, Int32.add_zero]
theorem pk_mul (a b : Nat) : nI a * nI b = nI (a * b) := (Int32.ofNat_mul a b).symm
theorem pk_div {a d : Nat} (ha : a < 2 ^ 31) (h0 : 0 < d) (hd : d < 2 ^ 31) : nI a / nI d = nI (a / d) := by
  apply Int32.toInt_inj.mp
  rw [lg_idiv_nonneg (by rw [nI_toInt ha]; omega) (by rw [nI_toInt hd]; omega), nI_toInt ha, nI_toInt hd, nI_toInt (Nat.lt_of_le_of_lt (Nat.div_le_self a d) ha)]
  first | rfl | exact (Int.natCast_ediv _ _).symm
theorem pk_rem {a d : Nat} (ha : a < 2 ^ 31) (h0 : 0 < d) (hd : d < 2 ^ 31) : nI a - nI a / nI d * nI d = nI (a % d) := by
  rw [pk_div ha h0 hd, pk_mul, pk_sub (Nat.div_mul_le_self a d)]
  exact congrArg nI (by have := Nat.div_add_mod' a d; omega)
theorem pk_ix (x : Int32) {n : Nat} (hn : n < 2 ^ 31) : x < 0 ∨ nI n ≤ x ∨ ∃ j : Nat, j < n ∧ x = nI j := by
  by_cases h : x < 0
  · exact Or.inl h
  · obtain ⟨j, hj, rfl⟩ := nI_of h
    by_cases h2 : j < n
    · exact Or.inr (Or.inr ⟨j, h2, rfl⟩)
    · exact Or.inr (Or.inl (nI_le (by omega) hj))
theorem pk_le {x y : Int32} {A B : Prop} (a b : Nat) (f : a ≤ b → A) (g : b < a → B) (hx : x = nI a := by rfl) (hy : y = nI b := by rfl) (ha : a < 2 ^ 31 := by omega) (hb : b < 2 ^ 31 := by omega) : (x ≤ y → A) ∧ (¬ x ≤ y → B) := by
  subst hx hy
  rw [nI_leI ha hb]
  exact ⟨f, fun z => g (by omega)⟩
theorem pk_lt {x y : Int32} {A B : Prop} (a b : Nat) (f : a < b → A) (g : b ≤ a → B) (hx : x = nI a := by rfl) (hy : y = nI b := by rfl) (ha : a < 2 ^ 31 := by omega) (hb : b < 2 ^ 31 := by omega) : (x < y → A) ∧ (¬ x < y → B) := by
  subst hx hy
  rw [nI_ltI ha hb]
  exact ⟨f, fun z => g (by omega)⟩
theorem pk_eq {x y : Int32} {A B : Prop} (a b : Nat) (f : a = b → A) (g : a ≠ b → B) (hx : x = nI a := by rfl) (hy : y = nI b := by rfl) (ha : a < 2 ^ 31 := by omega) (hb : b < 2 ^ 31 := by omega) : (x = y → A) ∧ (¬ x = y → B) := by
  subst hx hy
  rw [nI_eq ha hb]
  exact ⟨f, g⟩
/-! the digits of an assignment, the costs that it meets, and the searches over all assignments, as plain functions -/
def wn_dg : Nat → Nat → Nat
  | 0, a => a % 3
  | s + 1, a => wn_dg s (a / 3)
theorem wn_dg_lt : ∀ s a : Nat, wn_dg s a < 3
  | 0, a => Nat.mod_lt a (by decide)
  | s + 1, a => wn_dg_lt s (a / 3)
def wn_V2 (g : Nat → Int32) : Nat → Nat → Int32 → Int32
  | 0, _, s => s
  | r + 1, i, s => if g i = 20 then -6 else wn_V2 g r (i + 1) (s + g i)
def wn_V1 (f g : Nat → Int32) (t : Nat) : Nat → Nat → Int32 → Int32
  | 0, _, s => wn_V2 g t 0 s
  | r + 1, i, s => if f i = 20 then -6 else wn_V1 f g t r (i + 1) (s + f i)
def wn_f (vc : Nat → Int32) (a i : Nat) : Int32 := vc (i * 3 + wn_dg (5 - i) a)
def wn_g (pc tx ty : Nat → Int32) (a i : Nat) : Int32 := pc (i * 9 + wn_dg (5 - (ty i).toNatClampNeg) a * 3 + wn_dg (5 - (tx i).toNatClampNeg) a)
/-- the cost of assignment a, or -6 -/
def wn_c (t : Nat) (vc pc tx ty : Nat → Int32) (a : Nat) : Int32 := wn_V1 (wn_f vc a) (wn_g pc tx ty a) t 6 0 0
/-- a cost as it is kept -/
def wn_k (x : Int32) : Prop := ∃ m : Nat, m ≤ 20 ∧ x = nI m
/-- a variable as it is kept -/
def wn_x (x : Int32) : Prop := ∃ m : Nat, m < 6 ∧ x = nI m
def wn_ok (t : Nat) (vc pc tx ty : Nat → Int32) : Prop :=
  t ≤ 8 ∧ (∀ i, i < 18 → wn_k (vc i)) ∧ (∀ i, i < 72 → wn_k (pc i)) ∧ (∀ i, i < 8 → wn_x (tx i)) ∧ (∀ i, i < 8 → wn_x (ty i))
/-- an answer of a sum: -6, or a small number -/
def wn_v (x : Int32) : Prop := x = -6 ∨ ∃ q : Nat, q ≤ 1000 ∧ x = nI q
theorem wn_n6 {j : Nat} (h : j < 2 ^ 31) : ¬ nI j = -6 := by
  intro e
  have e2 := congrArg Int32.toInt e
  rw [nI_toInt h, show (-6 : Int32).toInt = -6 from by decide] at e2
  omega
theorem wn_v_neg {x : Int32} (h : wn_v x) : x < 0 ↔ x = -6 := by
  rcases h with rfl | ⟨q, hq, rfl⟩
  · exact ⟨fun _ => rfl, fun _ => by decide⟩
  · exact ⟨fun z => absurd z (nI_pos (by omega)), fun z => absurd z (wn_n6 (by omega))⟩
theorem wn_v_le {x : Int32} (h : wn_v x) : ¬ (1000 : Int32) < x := by
  rcases h with rfl | ⟨q, hq, rfl⟩
  · decide
  · exact nI_nlt (a := 1000) hq (by decide)
theorem wn_V2_v (g : Nat → Int32) : ∀ r i m : Nat, m + 20 * r ≤ 1000 → (∀ j, i ≤ j → j < i + r → wn_k (g j)) → wn_v (wn_V2 g r i (nI m)) := by
  intro r
  induction r with
  | zero => exact fun i m hm _ => Or.inr ⟨m, by omega, rfl⟩
  | succ r ih =>
    intro i m hm hg
    rw [wn_V2]
    by_cases z : g i = 20
    · rw [if_pos z]; exact Or.inl rfl
    · rw [if_neg z]
      obtain ⟨q, hq, e⟩ := hg i (by omega) (by omega)
      rw [e, nI_add]
      exact ih (i + 1) (m + q) (by omega) (fun j h1 h2 => hg j (by omega) (by omega))
theorem wn_V1_v (f g : Nat → Int32) (t : Nat) (ht : t ≤ 8) (hg : ∀ j, j < t → wn_k (g j)) : ∀ r i m : Nat, m + 20 * r ≤ 800 → (∀ j, i ≤ j → j < i + r → wn_k (f j)) → wn_v (wn_V1 f g t r i (nI m)) := by
  intro r
  induction r with
  | zero => exact fun i m hm _ => wn_V2_v g t 0 m (by omega) (fun j _ h => hg j (by omega))
  | succ r ih =>
    intro i m hm hf
    rw [wn_V1]
    by_cases z : f i = 20
    · rw [if_pos z]; exact Or.inl rfl
    · rw [if_neg z]
      obtain ⟨q, hq, e⟩ := hf i (by omega) (by omega)
      rw [e, nI_add]
      exact ih (i + 1) (m + q) (by omega) (fun j h1 h2 => hf j (by omega) (by omega))
theorem wn_f_k {t : Nat} {vc pc tx ty : Nat → Int32} (h : wn_ok t vc pc tx ty) (a : Nat) {i : Nat} (hi : i < 6) : wn_k (wn_f vc a i) := by
  have := wn_dg_lt (5 - i) a
  exact h.2.1 _ (by omega)
theorem wn_g_k {t : Nat} {vc pc tx ty : Nat → Int32} (h : wn_ok t vc pc tx ty) (a : Nat) {i : Nat} (hi : i < 8) : wn_k (wn_g pc tx ty a i) := by
  have h1 := wn_dg_lt (5 - (ty i).toNatClampNeg) a
  have h2 := wn_dg_lt (5 - (tx i).toNatClampNeg) a
  exact h.2.2.1 _ (by omega)
theorem wn_c_v {t : Nat} {vc pc tx ty : Nat → Int32} (h : wn_ok t vc pc tx ty) (a : Nat) : wn_v (wn_c t vc pc tx ty a) :=
  wn_V1_v (wn_f vc a) (wn_g pc tx ty a) t h.1 (fun j hj => wn_g_k h a (Nat.lt_of_lt_of_le hj h.1)) 6 0 0 (by decide) (fun j _ hj => wn_f_k h a (by omega))
/-! the first of the least cost -/
def wn_fs (c : Nat → Int32) (i : Nat) : Option Nat → Option Nat
  | none => if c i = -6 then none else some i
  | some j => if c i = -6 then some j else if c j ≤ c i then some j else some i
theorem wn_fs_n6 {c : Nat → Int32} {i : Nat} {o : Option Nat} (z : c i = -6) : wn_fs c i o = o := by
  cases o with
  | none => exact if_pos z
  | some m => exact if_pos z
theorem wn_fs_n {c : Nat → Int32} {i : Nat} (z : ¬ c i = -6) : wn_fs c i none = some i := if_neg z
theorem wn_fs_le {c : Nat → Int32} {i m : Nat} (z : ¬ c i = -6) (y : c m ≤ c i) : wn_fs c i (some m) = some m := (if_neg z).trans (if_pos y)
theorem wn_fs_gt {c : Nat → Int32} {i m : Nat} (z : ¬ c i = -6) (y : ¬ c m ≤ c i) : wn_fs c i (some m) = some i := (if_neg z).trans (if_neg y)
def wn_F (c : Nat → Int32) : Nat → Nat → Option Nat → Option Nat
  | 0, _, o => o
  | r + 1, i, o => wn_F c r (i + 1) (wn_fs c i o)
def wn_o1 : Option Nat → Int32
  | none => -6
  | some j => nI j
def wn_o2 (c : Nat → Int32) : Option Nat → Int32
  | none => -6
  | some j => c j
/-- what is known of the search behind the assignments below i -/
def wn_P (c : Nat → Int32) (i : Nat) (o : Option Nat) : Prop :=
  (o = none → ∀ k, k < i → c k = -6) ∧ (∀ j, o = some j → j < i ∧ ¬ c j = -6 ∧ ∀ k, k < i → ¬ c k = -6 → c j ≤ c k)
theorem wn_P0 (c : Nat → Int32) : wn_P c 0 none := ⟨fun _ k hk => absurd hk (by omega), fun j e => nomatch e⟩
theorem wn_fs_P {c : Nat → Int32} {i : Nat} {o : Option Nat} (h : wn_P c i o) : wn_P c (i + 1) (wn_fs c i o) := by
  by_cases z : c i = -6
  · rw [wn_fs_n6 z]
    refine ⟨fun e k hk => ?_, fun j e => ⟨?_, (h.2 j e).2.1, fun k hk hz => ?_⟩⟩
    · by_cases e2 : k = i
      · rw [e2]; exact z
      · exact h.1 e k (by omega)
    · have := (h.2 j e).1
      omega
    · by_cases e2 : k = i
      · rw [e2] at hz; exact absurd z hz
      · exact (h.2 j e).2.2 k (by omega) hz
  · have hn : wn_fs c i o = some i → (∀ k, k < i → ¬ c k = -6 → c i ≤ c k) → wn_P c (i + 1) (wn_fs c i o) := by
      intro e hl
      rw [e]
      refine ⟨fun e => absurd e (Option.some_ne_none _), fun j e => ?_⟩
      obtain rfl : i = j := Option.some.inj e
      refine ⟨by omega, z, fun k hk hz => ?_⟩
      by_cases e2 : k = i
      · rw [e2]; exact Int32.le_refl _
      · exact hl k (by omega) hz
    cases o with
    | none => exact hn (wn_fs_n z) (fun k hk hz => absurd (h.1 rfl k hk) hz)
    | some m =>
      obtain ⟨hm, zm, hl⟩ := h.2 m rfl
      by_cases y : c m ≤ c i
      · rw [wn_fs_le z y]
        refine ⟨fun e => absurd e (Option.some_ne_none _), fun j e => ?_⟩
        obtain rfl : m = j := Option.some.inj e
        refine ⟨by omega, zm, fun k hk hz => ?_⟩
        by_cases e2 : k = i
        · rw [e2]; exact y
        · exact hl k (by omega) hz
      · refine hn (wn_fs_gt z y) (fun k hk hz => ?_)
        have h3 := hl k hk hz
        rw [Int32.le_iff_toInt_le] at h3 y ⊢
        omega
theorem wn_F_P (c : Nat → Int32) : ∀ (r i : Nat) (o : Option Nat), wn_P c i o → wn_P c (i + r) (wn_F c r i o) := by
  intro r
  induction r with
  | zero => exact fun i o h => h
  | succ r ih =>
    intro i o h
    have e : i + (r + 1) = i + 1 + r := by omega
    rw [e, wn_F]
    exact ih (i + 1) _ (wn_fs_P h)
/-- the first of the least cost, and the least cost -/
def wn_B (c : Nat → Int32) : Option Nat := wn_F c 729 0 none
def wn_L (c : Nat → Int32) : Int32 := wn_o2 c (wn_B c)
theorem wn_B_P (c : Nat → Int32) : wn_P c 729 (wn_B c) := wn_F_P c 729 0 none (wn_P0 c)
theorem wn_L_v {c : Nat → Int32} (hc : ∀ a, wn_v (c a)) : wn_v (wn_L c) := by
  unfold wn_L
  cases wn_B c with
  | none => exact Or.inl rfl
  | some j => exact hc j
/-! the least of those that p picks -/
def wn_ws (c : Nat → Int32) (p : Nat → Bool) (i : Nat) (b : Int32) : Int32 :=
  if p i = true then (if c i = -6 then b else if b = -6 then c i else if b ≤ c i then b else c i) else b
def wn_W (c : Nat → Int32) (p : Nat → Bool) : Nat → Nat → Int32 → Int32
  | 0, _, b => b
  | r + 1, i, b => wn_W c p r (i + 1) (wn_ws c p i b)
theorem wn_ws_v {c : Nat → Int32} {p : Nat → Bool} {i : Nat} {b : Int32} (hc : wn_v (c i)) (hb : wn_v b) : wn_v (wn_ws c p i b) := by
  unfold wn_ws
  split
  · split
    · exact hb
    · split
      · exact hc
      · split
        · exact hb
        · exact hc
  · exact hb
/-! how many p picks, and whether it picks one -/
def wn_N (p : Nat → Bool) : Nat → Nat → Int32 → Int32
  | 0, _, n => n
  | r + 1, i, n => wn_N p r (i + 1) (if p i = true then n + 1 else n)
def wn_A (p : Nat → Bool) : Nat → Nat → Int32
  | 0, _ => 0
  | r + 1, i => if p i = true then 1 else wn_A p r (i + 1)
theorem wn_N_c {p q : Nat → Bool} : ∀ (r i : Nat) (n : Int32), (∀ k, i ≤ k → k < i + r → p k = q k) → wn_N p r i n = wn_N q r i n := by
  intro r
  induction r with
  | zero => exact fun _ _ _ => rfl
  | succ r ih =>
    intro i n h
    rw [wn_N, wn_N, h i (by omega) (by omega)]
    exact ih (i + 1) _ (fun k h1 h2 => h k (by omega) (by omega))
theorem wn_A_c {p q : Nat → Bool} : ∀ (r i : Nat), (∀ k, i ≤ k → k < i + r → p k = q k) → wn_A p r i = wn_A q r i := by
  intro r
  induction r with
  | zero => exact fun _ _ => rfl
  | succ r ih =>
    intro i h
    rw [wn_A, wn_A, h i (by omega) (by omega), ih (i + 1) (fun k h1 h2 => h k (by omega) (by omega))]
/-! the nine costs of a new table -/
def wn_Z (t : Nat) : Nat → Nat → (Nat → Int32) → (Nat → Int32)
  | 0, _, pc => pc
  | r + 1, i, pc => wn_Z t r (i + 1) (upd pc (t * 9 + i) 0)
theorem wn_upd_k {N : Nat} {f : Nat → Int32} {k : Nat} {x : Int32} (h : ∀ i, i < N → wn_k (f i)) (hx : wn_k x) : ∀ i, i < N → wn_k (upd f k x i) := by
  intro i hi
  by_cases e : i = k
  · rw [e, pk_us]; exact hx
  · rw [pk_un e]; exact h i hi
theorem wn_upd_x {N : Nat} {f : Nat → Int32} {k : Nat} {x : Int32} (h : ∀ i, i < N → wn_x (f i)) (hx : wn_x x) : ∀ i, i < N → wn_x (upd f k x i) := by
  intro i hi
  by_cases e : i = k
  · rw [e, pk_us]; exact hx
  · rw [pk_un e]; exact h i hi
theorem wn_Z_k (t : Nat) : ∀ (r i : Nat) (pc : Nat → Int32), (∀ j, j < 72 → wn_k (pc j)) → ∀ j, j < 72 → wn_k (wn_Z t r i pc j) := by
  intro r
  induction r with
  | zero => exact fun _ _ h => h
  | succ r ih => exact fun i pc h => ih (i + 1) _ (wn_upd_k h ⟨0, by decide, rfl⟩)
/-! an argument is a number that fits, or not -/
theorem wn_arg (x : Int32) (n : Nat) (hn : n < 2 ^ 31) : (x < 0 ∨ (¬ x < 0 ∧ nI n ≤ x)) ∨ ∃ j : Nat, j < n ∧ x = nI j := by
  rcases pk_ix x hn with h | h | h
  · exact Or.inl (Or.inl h)
  · by_cases z : x < 0
    · exact Or.inl (Or.inl z)
    · exact Or.inl (Or.inr ⟨z, h⟩)
  · exact Or.inr h
end
section
/-! the component's walks, each against its plain function -/
theorem wn_Xv4 (post : Int32 → Prop) (x : Nat) : ∀ s a : Nat, a < 2 ^ 31 → x + s < 2 ^ 31 → post (nI (wn_dg s a)) → wX_valueIn_4 post (nI x) (s + 1) (nI a) (nI (x + s)) := by
  intro s
  induction s with
  | zero =>
    intro a ha hx h
    refine br_t (nI_le (by omega) (by omega)) ⟨by decide, ?_⟩
    have e := pk_rem (d := 3) ha (by decide) (by decide)
    rw [wn_dg, ← e] at h
    exact h
  | succ s ih =>
    intro a ha hx h
    refine br_f (nI_ge (by omega) (by omega)) ⟨by decide, nm_r (pk_div (d := 3) ha (by decide) (by decide)) (nm_r (pk_m1 (x + s)) ?_)⟩
    exact ih (a / 3) (by omega) (by omega) h
theorem wn_Xv {post : Int32 → Prop} {a x : Nat} (ha : a < 729) (hx : x < 6) (h : post (nI (wn_dg (5 - x) a))) : wpX_valueIn post (nI a) (nI x) := by
  have h1 := wn_Xv4 post x (5 - x) a (by omega) (by omega) h
  have e : x + (5 - x) = 5 := by omega
  rw [e] at h1
  exact ⟨5 - x + 1, h1⟩
section
variable {t : Nat} {vc pc tx ty : Nat → Int32}
theorem wn_X49 (post : Int32 → Prop) (hk : wn_ok t vc pc tx ty) {a : Nat} (ha : a < 729) : ∀ (r i : Nat) (s : Int32), i + r = t → post (wn_V2 (wn_g pc tx ty a) r i s) → wX_costOf_49 post (nI a) (nI t) vc pc tx ty (r + 1) s (nI i) := by
  have ht := hk.1
  intro r
  induction r with
  | zero => exact fun i s hi h => br_t (nI_le (by omega) (by omega)) h
  | succ r ih =>
    intro i s hi h
    have hi8 : i < 8 := by omega
    obtain ⟨mx, hmx, ex⟩ := hk.2.2.2.1 i hi8
    obtain ⟨my, hmy, ey⟩ := hk.2.2.2.2 i hi8
    have ei : (nI i).toNatClampNeg = i := nI_clamp (by omega)
    have h1 := wn_dg_lt (5 - mx) a
    have h2 := wn_dg_lt (5 - my) a
    have eg : wn_g pc tx ty a i = pc (i * 9 + wn_dg (5 - my) a * 3 + wn_dg (5 - mx) a) := by
      unfold wn_g
      rw [ex, ey, nI_clamp (by omega), nI_clamp (by omega)]
    have en : nI i * 9 + nI (wn_dg (5 - my) a) * 3 + nI (wn_dg (5 - mx) a) = nI (i * 9 + wn_dg (5 - my) a * 3 + wn_dg (5 - mx) a) := by
      rw [show (9 : Int32) = nI 9 from rfl, show (3 : Int32) = nI 3 from rfl, pk_mul, pk_mul, nI_add, nI_add]
    refine br_f (nI_ge (by omega) (by omega)) ⟨vp_in_nI hi8 (by decide), ?_⟩
    rw [ei, ex, ey]
    refine wn_Xv ha hmx ⟨vp_in_nI hi8 (by decide), ?_⟩
    refine wn_Xv ha hmy ?_
    rw [en, nI_clamp (by omega), ← eg]
    refine ⟨vp_in_nI (by omega) (by decide), nm_e ?_⟩
    rw [wn_V2] at h
    refine br_c (fun z => ?_) (fun z => nm_e (nm_r (nI_1 i) ?_))
    · rw [if_pos z] at h
      exact h
    · rw [if_neg z] at h
      exact ih (i + 1) _ (by omega) h
theorem wn_X4 (post : Int32 → Prop) (hk : wn_ok t vc pc tx ty) {a : Nat} (ha : a < 729) : ∀ (r i : Nat) (s : Int32), i + r = 6 → post (wn_V1 (wn_f vc a) (wn_g pc tx ty a) t r i s) → wX_costOf_4 post (nI a) (nI t) vc pc tx ty (r + 1) s (nI i) := by
  intro r
  induction r with
  | zero => exact fun i s hi h => br_t (nI_le (a := 6) (by omega) (by omega)) ⟨t + 1, wn_X49 post hk ha t 0 s (by omega) h⟩
  | succ r ih =>
    intro i s hi h
    have h1 := wn_dg_lt (5 - i) a
    have en : nI i * 3 + nI (wn_dg (5 - i) a) = nI (i * 3 + wn_dg (5 - i) a) := by
      rw [show (3 : Int32) = nI 3 from rfl, pk_mul, nI_add]
    have eg : wn_f vc a i = vc (i * 3 + wn_dg (5 - i) a) := rfl
    refine br_f (nI_ge (b := 6) (by omega) (by decide)) (wn_Xv ha (by omega) ?_)
    rw [en, nI_clamp (by omega), ← eg]
    refine ⟨vp_in_nI (by omega) (by decide), nm_e ?_⟩
    rw [wn_V1] at h
    refine br_c (fun z => ?_) (fun z => nm_e (nm_r (nI_1 i) ?_))
    · rw [if_pos z] at h
      exact h
    · rw [if_neg z] at h
      exact ih (i + 1) _ (by omega) h
theorem wn_Xc {post : Int32 → Prop} (hk : wn_ok t vc pc tx ty) {a : Nat} (ha : a < 729) (h : post (wn_c t vc pc tx ty a)) : wpX_costOf post (nI t, vc, pc, tx, ty) (nI a) :=
  ⟨7, wn_X4 post hk ha 6 0 0 (by decide) h⟩
theorem wn_X8 (post : Int32 → Prop) (hk : wn_ok t vc pc tx ty) : ∀ (r i : Nat) (o : Option Nat), i + r = 729 → wn_P (wn_c t vc pc tx ty) i o → post (wn_o1 (wn_F (wn_c t vc pc tx ty) r i o)) → wX_firstOfLeastCost_8 post (nI t) vc pc tx ty (r + 1) (wn_o1 o) (wn_o2 (wn_c t vc pc tx ty) o) (nI i) := by
  intro r
  induction r with
  | zero => exact fun i o hi _ h => br_t (nI_le (a := 729) (by omega) (by omega)) h
  | succ r ih =>
    intro i o hi hP h
    have hN := wn_fs_P hP
    rw [wn_F] at h
    refine br_f (nI_ge (b := 729) (by omega) (by decide)) (wn_Xc hk (by omega) ?_)
    by_cases z : wn_c t vc pc tx ty i = -6
    · rw [wn_fs_n6 z] at h hN
      exact br_t z (br_t rfl (nm_r (nI_1 i) (ih (i + 1) o (by omega) hN h)))
    · refine br_f z ?_
      cases o with
      | none =>
        rw [wn_fs_n z] at h hN
        exact br_t rfl (br_f (by decide) (nm_r (nI_1 i) (ih (i + 1) (some i) (by omega) hN h)))
      | some m =>
        refine br_f (hP.2 m rfl).2.1 ?_
        by_cases y : wn_c t vc pc tx ty m ≤ wn_c t vc pc tx ty i
        · rw [wn_fs_le z y] at h hN
          exact br_t y (br_t rfl (nm_r (nI_1 i) (ih (i + 1) (some m) (by omega) hN h)))
        · rw [wn_fs_gt z y] at h hN
          exact br_f y (br_f (by decide) (nm_r (nI_1 i) (ih (i + 1) (some i) (by omega) hN h)))
theorem wn_Xf {post : Int32 → Prop} (hk : wn_ok t vc pc tx ty) (h : post (wn_o1 (wn_B (wn_c t vc pc tx ty)))) : wpX_firstOfLeastCost post (nI t, vc, pc, tx, ty) :=
  ⟨730, wn_X8 post hk 729 0 none (by decide) (wn_P0 _) h⟩
theorem wn_Xl {post : Int32 → Prop} (hk : wn_ok t vc pc tx ty) (h : post (wn_L (wn_c t vc pc tx ty))) : wpX_least post (nI t, vc, pc, tx, ty) := by
  have hP := wn_B_P (wn_c t vc pc tx ty)
  unfold wn_L at h
  unfold wpX_least
  dsimp only
  refine wn_Xf hk ?_
  generalize wn_B (wn_c t vc pc tx ty) = o at hP h
  cases o with
  | none => exact br_t rfl h
  | some j =>
    have hj := (hP.2 j rfl).1
    exact br_f (wn_n6 (by omega)) (wn_Xc hk hj h)
theorem wn_X25 (post : Int32 → Prop) (hk : wn_ok t vc pc tx ty) {x : Nat} (hx : x < 6) (y : Int32) : ∀ (r i : Nat) (b : Int32), i + r = 729 → post (wn_W (wn_c t vc pc tx ty) (fun k => decide (nI (wn_dg (5 - x) k) = y)) r i b) → wX_leastWith_25 post (nI x) y (nI t) vc pc tx ty (r + 1) b (nI i) := by
  intro r
  induction r with
  | zero => exact fun i b hi h => br_t (nI_le (a := 729) (by omega) (by omega)) h
  | succ r ih =>
    intro i b hi h
    rw [wn_W, wn_ws] at h
    refine br_f (nI_ge (b := 729) (by omega) (by decide)) (wn_Xv (by omega) hx ?_)
    by_cases p : nI (wn_dg (5 - x) i) = y
    · rw [if_pos (decide_eq_true p)] at h
      refine br_t p (wn_Xc hk (by omega) ?_)
      by_cases z : wn_c t vc pc tx ty i = -6
      · rw [if_pos z] at h
        exact br_t z (br_t rfl (nm_r (nI_1 i) (ih (i + 1) b (by omega) h)))
      · rw [if_neg z] at h
        refine br_f z ?_
        by_cases q : b = -6
        · rw [if_pos q] at h
          exact br_t q (br_f (by decide) (nm_r (nI_1 i) (ih (i + 1) _ (by omega) h)))
        · rw [if_neg q] at h
          refine br_f q ?_
          by_cases w : b ≤ wn_c t vc pc tx ty i
          · rw [if_pos w] at h
            exact br_t w (br_t rfl (nm_r (nI_1 i) (ih (i + 1) _ (by omega) h)))
          · rw [if_neg w] at h
            exact br_f w (br_f (by decide) (nm_r (nI_1 i) (ih (i + 1) _ (by omega) h)))
    · rw [if_neg (fun e => p (of_decide_eq_true e))] at h
      exact br_f p (nm_r (nI_1 i) (ih (i + 1) b (by omega) h))
theorem wn_X17 (post : Int32 → Prop) (hk : wn_ok t vc pc tx ty) (y : Int32) : ∀ (r i : Nat) (n : Int32), i + r = 729 → post (wn_N (fun k => decide (wn_c t vc pc tx ty k = y)) r i n) → wX_ties_17 post y (nI t) vc pc tx ty (r + 1) n (nI i) := by
  intro r
  induction r with
  | zero => exact fun i b hi h => br_t (nI_le (a := 729) (by omega) (by omega)) h
  | succ r ih =>
    intro i n hi h
    rw [wn_N] at h
    refine br_f (nI_ge (b := 729) (by omega) (by decide)) (wn_Xc hk (by omega) ?_)
    by_cases p : wn_c t vc pc tx ty i = y
    · rw [if_pos (decide_eq_true p)] at h
      exact br_t p (nm_e (nm_r (nI_1 i) (ih (i + 1) _ (by omega) h)))
    · rw [if_neg (fun e => p (of_decide_eq_true e))] at h
      exact br_f p (nm_r (nI_1 i) (ih (i + 1) _ (by omega) h))
theorem wn_Xa4 (post : Int32 → Prop) (hk : wn_ok t vc pc tx ty) : ∀ (r i : Nat) (n : Int32), i + r = 729 → post (wn_N (fun k => decide (¬ wn_c t vc pc tx ty k = -6)) r i n) → wX_allowed_4 post (nI t) vc pc tx ty (r + 1) n (nI i) := by
  intro r
  induction r with
  | zero => exact fun i b hi h => br_t (nI_le (a := 729) (by omega) (by omega)) h
  | succ r ih =>
    intro i n hi h
    rw [wn_N] at h
    refine br_f (nI_ge (b := 729) (by omega) (by decide)) (wn_Xc hk (by omega) ?_)
    by_cases p : wn_c t vc pc tx ty i = -6
    · rw [if_neg (fun e => absurd p (of_decide_eq_true e))] at h
      exact br_t p (nm_r (nI_1 i) (ih (i + 1) _ (by omega) h))
    · rw [if_pos (decide_eq_true p)] at h
      exact br_f p (nm_e (nm_r (nI_1 i) (ih (i + 1) _ (by omega) h)))
theorem wn_Xu4 (post : Int32 → Prop) (hk : wn_ok t vc pc tx ty) (y : Int32) : ∀ (r i : Nat) (n : Int32), i + r = 729 → post (wn_N (fun k => decide (¬ wn_c t vc pc tx ty k = -6 ∧ ¬ y < wn_c t vc pc tx ty k)) r i n) → wX_upTo_4 post y (nI t) vc pc tx ty (r + 1) n (nI i) := by
  intro r
  induction r with
  | zero => exact fun i b hi h => br_t (nI_le (a := 729) (by omega) (by omega)) h
  | succ r ih =>
    intro i n hi h
    rw [wn_N] at h
    refine br_f (nI_ge (b := 729) (by omega) (by decide)) (wn_Xc hk (by omega) ?_)
    by_cases p : wn_c t vc pc tx ty i = -6
    · rw [if_neg (fun e => (of_decide_eq_true e).1 p)] at h
      exact br_t p (nm_r (nI_1 i) (ih (i + 1) _ (by omega) h))
    · refine br_f p ?_
      by_cases q : y < wn_c t vc pc tx ty i
      · rw [if_neg (fun e => (of_decide_eq_true e).2 q)] at h
        exact br_t q (nm_r (nI_1 i) (ih (i + 1) _ (by omega) h))
      · rw [if_pos (decide_eq_true ⟨p, q⟩)] at h
        exact br_f q (nm_e (nm_r (nI_1 i) (ih (i + 1) _ (by omega) h)))
theorem wn_X32 (post : Int32 → Prop) (hk : wn_ok t vc pc tx ty) {x z : Nat} (hx : x < 6) (hz : z < 6) (y : Int32) : ∀ (r i : Nat), i + r = 729 → post (wn_A (fun k => decide (nI (wn_dg (5 - x) k) = nI (wn_dg (5 - z) k) ∧ wn_c t vc pc tx ty k = y)) r i) → wX_canAgree_32 post (nI x) (nI z) y (nI t) vc pc tx ty (r + 1) (nI i) := by
  intro r
  induction r with
  | zero => exact fun i hi h => br_t (nI_le (a := 729) (by omega) (by omega)) h
  | succ r ih =>
    intro i hi h
    rw [wn_A] at h
    refine br_f (nI_ge (b := 729) (by omega) (by decide)) (wn_Xv (by omega) hx (wn_Xv (by omega) hz ?_))
    by_cases p : nI (wn_dg (5 - x) i) = nI (wn_dg (5 - z) i)
    · refine br_t p (wn_Xc hk (by omega) ?_)
      by_cases q : wn_c t vc pc tx ty i = y
      · rw [if_pos (decide_eq_true ⟨p, q⟩)] at h
        exact br_t q h
      · rw [if_neg (fun e => q (of_decide_eq_true e).2)] at h
        exact br_f q (nm_r (nI_1 i) (ih (i + 1) (by omega) h))
    · rw [if_neg (fun e => p (of_decide_eq_true e).1)] at h
      exact br_f p (nm_r (nI_1 i) (ih (i + 1) (by omega) h))
theorem wn_Xt55 (post : Int32 → SX → Prop) (ht : t < 8) : ∀ (r i : Nat) (pc : Nat → Int32), i + r = 9 → post (nI t) (nI (t + 1), vc, wn_Z t r i pc, tx, ty) → wX_table_55 post (nI t) (nI t) (r + 1) (nI i) vc pc tx ty := by
  intro r
  induction r with
  | zero => exact fun i pc hi h => br_t (nI_le (a := 9) (by omega) (by omega)) (nm_r (nI_1 t) h)
  | succ r ih =>
    intro i pc hi h
    have en : nI t * 9 + nI i = nI (t * 9 + i) := by
      rw [show (9 : Int32) = nI 9 from rfl, pk_mul, nI_add]
    refine br_f (nI_ge (b := 9) (by omega) (by decide)) ?_
    rw [en, nI_clamp (by omega)]
    exact ⟨vp_in_nI (by omega) (by decide), nm_e (nm_r (nI_1 i) (ih (i + 1) _ (by omega) h))⟩
end
/-! arguments that are refused, and arguments that are taken -/
theorem wn_XvB {post : Int32 → Prop} {x : Int32} (hx : x < 0 ∨ (¬ x < 0 ∧ nI 6 ≤ x)) (h : post 0) : wpX_isVariable post x := by
  rcases hx with a | ⟨a, b⟩
  · exact br_t a h
  · exact br_f a (br_t b h)
theorem wn_XvG {post : Int32 → Prop} {j : Nat} (hj : j < 6) (h : post 1) : wpX_isVariable post (nI j) :=
  br_f (nI_pos (by omega)) (br_f (nI_ge (b := 6) hj (by decide)) h)
theorem wn_XuB {post : Int32 → Prop} {x : Int32} (hx : x < 0 ∨ (¬ x < 0 ∧ nI 3 ≤ x)) (h : post 0) : wpX_isValue post x := by
  rcases hx with a | ⟨a, b⟩
  · exact br_t a h
  · exact br_f a (br_t b h)
theorem wn_XuG {post : Int32 → Prop} {j : Nat} (hj : j < 3) (h : post 1) : wpX_isValue post (nI j) :=
  br_f (nI_pos (by omega)) (br_f (nI_ge (b := 3) hj (by decide)) h)
/-- nI (n + 1) ≤ x is n < x -/
theorem wn_gt {x : Int32} {n : Nat} (hn : n + 1 < 2 ^ 31) (h : nI (n + 1) ≤ x) : nI n < x := by
  rw [Int32.le_iff_toInt_le, nI_toInt hn] at h
  rw [Int32.lt_iff_toInt_lt, nI_toInt (by omega)]
  omega
theorem wn_nle {x : Int32} {n : Nat} (hn : n + 1 < 2 ^ 31) (h : nI (n + 1) ≤ x) : ¬ x ≤ nI n := by
  rw [Int32.le_iff_toInt_le, nI_toInt hn] at h
  rw [Int32.le_iff_toInt_le, nI_toInt (by omega)]
  omega
theorem wn_nlt {x : Int32} {n : Nat} (h : nI n ≤ x) : ¬ x < nI n := by
  rw [Int32.le_iff_toInt_le] at h
  rw [Int32.lt_iff_toInt_lt]
  omega
theorem wn_XkB {post : Int32 → Prop} {x : Int32} (hx : x < 0 ∨ (¬ x < 0 ∧ nI 21 ≤ x)) (h : post 0) : wpX_isCost post x := by
  rcases hx with a | ⟨a, b⟩
  · exact br_t a h
  · exact br_f a (br_t (wn_gt (n := 20) (by decide) b) h)
theorem wn_XkG {post : Int32 → Prop} {j : Nat} (hj : j < 21) (h : post 1) : wpX_isCost post (nI j) :=
  br_f (nI_pos (by omega)) (br_f (nI_nlt (a := 20) (by omega) (by decide)) h)
end
section
/-! the reference's walks, each against the same plain functions -/
section
variable {t : Nat} {kn : Int32} {vc pc tx ty tot : Nat → Int32}
theorem wn_Yv5 (post : Int32 → Prop) (x : Nat) (T : Int32) : ∀ s a : Nat, a < 2 ^ 31 → x + s < 2 ^ 31 → post (nI (wn_dg s a)) → wY_valueIn_5 post (nI x) T kn vc tx ty pc tot (s + 1) (nI a) (nI (x + s)) := by
  intro s
  induction s with
  | zero =>
    intro a ha hx h
    refine br_t (nI_le (by omega) (by omega)) ⟨by decide, ?_⟩
    have e := pk_rem (d := 3) ha (by decide) (by decide)
    rw [wn_dg, ← e] at h
    exact h
  | succ s ih =>
    intro a ha hx h
    refine br_f (nI_ge (by omega) (by omega)) ⟨by decide, nm_r (pk_div (d := 3) ha (by decide) (by decide)) (nm_r (pk_m1 (x + s)) ?_)⟩
    exact ih (a / 3) (by omega) (by omega) h
theorem wn_Yv {post : Int32 → Prop} {T : Int32} {a x : Nat} (ha : a < 729) (hx : x < 6) (h : post (nI (wn_dg (5 - x) a))) : wpY_valueIn post (T, kn, vc, tx, ty, pc, tot) (nI a) (nI x) := by
  have h1 := wn_Yv5 (kn := kn) (vc := vc) (pc := pc) (tx := tx) (ty := ty) (tot := tot) post x T (5 - x) a (by omega) (by omega) h
  have e : x + (5 - x) = 5 := by omega
  rw [e] at h1
  exact ⟨5 - x + 1, h1⟩
theorem wn_Y64 (post : Int32 → Prop) (hk : wn_ok t vc pc tx ty) {a : Nat} (ha : a < 729) : ∀ (r i : Nat) (s : Int32), i + r = t →
    (post (wn_V2 (wn_g pc tx ty a) r i s) → wY_totalOf_64 post (nI a) (nI t) kn vc tx ty pc tot (r + 1) s 0 (nI i)) ∧
    (post (-6) → wY_totalOf_64 post (nI a) (nI t) kn vc tx ty pc tot (r + 1) s 1 (nI i)) := by
  have ht := hk.1
  intro r
  induction r with
  | zero => exact fun i s hi => ⟨fun h => br_t (nI_le (by omega) (by omega)) (br_t rfl h), fun h => br_t (nI_le (by omega) (by omega)) (br_f (by decide) h)⟩
  | succ r ih =>
    intro i s hi
    have hi8 : i < 8 := by omega
    obtain ⟨mx, hmx, ex⟩ := hk.2.2.2.1 i hi8
    obtain ⟨my, hmy, ey⟩ := hk.2.2.2.2 i hi8
    have ei : (nI i).toNatClampNeg = i := nI_clamp (by omega)
    have h1 := wn_dg_lt (5 - mx) a
    have h2 := wn_dg_lt (5 - my) a
    have eg : wn_g pc tx ty a i = pc (i * 9 + wn_dg (5 - my) a * 3 + wn_dg (5 - mx) a) := by
      unfold wn_g
      rw [ex, ey, nI_clamp (by omega), nI_clamp (by omega)]
    have en : nI i * 9 + nI (wn_dg (5 - mx) a) + 3 * nI (wn_dg (5 - my) a) = nI (i * 9 + wn_dg (5 - my) a * 3 + wn_dg (5 - mx) a) := by
      rw [show (9 : Int32) = nI 9 from rfl, show (3 : Int32) = nI 3 from rfl, pk_mul, pk_mul, nI_add, nI_add]
      exact congrArg nI (by omega)
    have ih2 := ih (i + 1) (s + wn_g pc tx ty a i) (by omega)
    constructor
    · intro h
      refine br_f (nI_ge (by omega) (by omega)) ⟨vp_in_nI hi8 (by decide), ?_⟩
      rw [ei, ex, ey]
      refine wn_Yv ha hmx ⟨vp_in_nI hi8 (by decide), ?_⟩
      refine wn_Yv ha hmy ?_
      rw [en, nI_clamp (by omega), ← eg]
      refine ⟨vp_in_nI (by omega) (by decide), nm_e (nm_e (br_t rfl ?_))⟩
      rw [wn_V2] at h
      refine br_c (fun z => nm_r (nI_1 i) ?_) (fun z => nm_r (nI_1 i) ?_)
      · rw [if_pos z] at h
        exact ih2.2 h
      · rw [if_neg z] at h
        exact ih2.1 h
    · intro h
      refine br_f (nI_ge (by omega) (by omega)) ⟨vp_in_nI hi8 (by decide), ?_⟩
      rw [ei, ex, ey]
      refine wn_Yv ha hmx ⟨vp_in_nI hi8 (by decide), ?_⟩
      refine wn_Yv ha hmy ?_
      rw [en, nI_clamp (by omega), ← eg]
      exact ⟨vp_in_nI (by omega) (by decide), nm_e (nm_e (br_f (by decide) (nm_r (nI_1 i) (ih2.2 h))))⟩
theorem wn_Y7 (post : Int32 → Prop) (hk : wn_ok t vc pc tx ty) {a : Nat} (ha : a < 729) : ∀ (r i : Nat) (s : Int32), i + r = 6 →
    (post (wn_V1 (wn_f vc a) (wn_g pc tx ty a) t r i s) → wY_totalOf_7 post (nI a) (nI t) kn vc tx ty pc tot (r + 1) s 0 (nI i)) ∧
    (post (-6) → wY_totalOf_7 post (nI a) (nI t) kn vc tx ty pc tot (r + 1) s 1 (nI i)) := by
  intro r
  induction r with
  | zero => exact fun i s hi => ⟨fun h => br_t (nI_le (a := 6) (by omega) (by omega)) ⟨t + 1, (wn_Y64 post hk ha t 0 s (by omega)).1 h⟩, fun h => br_t (nI_le (a := 6) (by omega) (by omega)) ⟨t + 1, (wn_Y64 post hk ha t 0 s (by omega)).2 h⟩⟩
  | succ r ih =>
    intro i s hi
    have h1 := wn_dg_lt (5 - i) a
    have en : nI i * 3 + nI (wn_dg (5 - i) a) = nI (i * 3 + wn_dg (5 - i) a) := by
      rw [show (3 : Int32) = nI 3 from rfl, pk_mul, nI_add]
    have eg : wn_f vc a i = vc (i * 3 + wn_dg (5 - i) a) := rfl
    have ih2 := ih (i + 1) (s + wn_f vc a i) (by omega)
    constructor
    · intro h
      refine br_f (nI_ge (b := 6) (by omega) (by decide)) (wn_Yv ha (by omega) ?_)
      rw [en, nI_clamp (by omega), ← eg]
      refine ⟨vp_in_nI (by omega) (by decide), nm_e (nm_e (br_t rfl ?_))⟩
      rw [wn_V1] at h
      refine br_c (fun z => nm_r (nI_1 i) ?_) (fun z => nm_r (nI_1 i) ?_)
      · rw [if_pos z] at h
        exact ih2.2 h
      · rw [if_neg z] at h
        exact ih2.1 h
    · intro h
      refine br_f (nI_ge (b := 6) (by omega) (by decide)) (wn_Yv ha (by omega) ?_)
      rw [en, nI_clamp (by omega), ← eg]
      exact ⟨vp_in_nI (by omega) (by decide), nm_e (nm_e (br_f (by decide) (nm_r (nI_1 i) (ih2.2 h))))⟩
theorem wn_Yt {post : Int32 → Prop} (hk : wn_ok t vc pc tx ty) {a : Nat} (ha : a < 729) (h : post (wn_c t vc pc tx ty a)) : wpY_totalOf post (nI t, kn, vc, tx, ty, pc, tot) (nI a) :=
  ⟨7, (wn_Y7 post hk ha 6 0 0 (by decide)).1 h⟩
theorem wn_Y10 (post : SY → Prop) (hk : wn_ok t vc pc tx ty) (h : ∀ tot' : Nat → Int32, (∀ j, j < 729 → tot' j = wn_c t vc pc tx ty j) → post (nI t, 1, vc, tx, ty, pc, tot')) : ∀ (r i : Nat) (tot : Nat → Int32), i + r = 729 → (∀ j, j < i → tot j = wn_c t vc pc tx ty j) → wY_work_10 post (nI t) kn (r + 1) (nI i) vc tx ty pc tot := by
  intro r
  induction r with
  | zero => exact fun i tot hi hT => br_t (nI_le (a := 729) (by omega) (by omega)) (h tot (fun j hj => hT j (by omega)))
  | succ r ih =>
    intro i tot hi hT
    have ei : (nI i).toNatClampNeg = i := nI_clamp (by omega)
    refine br_f (nI_ge (b := 729) (by omega) (by decide)) (wn_Yt hk (by omega) ⟨vp_in_nI (by omega) (by decide), ?_⟩)
    rw [ei]
    refine nm_e (nm_r (nI_1 i) (ih (i + 1) _ (by omega) (fun j hj => ?_)))
    by_cases e : j = i
    · rw [e, pk_us]
    · rw [pk_un e]
      exact hT j (by omega)
/-- the totals are known, if they are said to be -/
def wn_T (t : Nat) (kn : Int32) (vc pc tx ty tot : Nat → Int32) : Prop := ¬ kn = 0 → ∀ j, j < 729 → tot j = wn_c t vc pc tx ty j
theorem wn_Yw {post : SY → Prop} (hk : wn_ok t vc pc tx ty) (hT : wn_T t kn vc pc tx ty tot)
    (h : ∀ (kn' : Int32) (tot' : Nat → Int32), (∀ j, j < 729 → tot' j = wn_c t vc pc tx ty j) → post (nI t, kn', vc, tx, ty, pc, tot')) : wpY_work post (nI t, kn, vc, tx, ty, pc, tot) := by
  by_cases z : kn = 0
  · exact br_t z ⟨730, wn_Y10 post hk (h 1) 729 0 tot (by decide) (fun j hj => absurd hj (by omega))⟩
  · exact br_f z (h kn tot (hT z))
theorem wn_Y9 (post : Int32 → SY → Prop) (hk : wn_ok t vc pc tx ty) (hT : ∀ j, j < 729 → tot j = wn_c t vc pc tx ty j) : ∀ (r i : Nat) (o : Option Nat), i + r = 729 → wn_P (wn_c t vc pc tx ty) i o → post (wn_o1 (wn_F (wn_c t vc pc tx ty) r i o)) (nI t, kn, vc, tx, ty, pc, tot) → wY_first_9 post (nI t) kn vc tx ty pc tot (r + 1) (wn_o1 o) (nI i) := by
  intro r
  induction r with
  | zero => exact fun i o hi _ h => br_t (nI_le (a := 729) (by omega) (by omega)) h
  | succ r ih =>
    intro i o hi hP h
    have hN := wn_fs_P hP
    have hc := wn_v_neg (wn_c_v hk i)
    have hv : vp_in (nI i) 729 := vp_in_nI (by omega) (by decide)
    have ei : tot (nI i).toNatClampNeg = wn_c t vc pc tx ty i := by
      rw [nI_clamp (by omega)]
      exact hT i (by omega)
    rw [wn_F] at h
    refine br_f (nI_ge (b := 729) (by omega) (by decide)) ⟨hv, ?_⟩
    rw [ei]
    by_cases z : wn_c t vc pc tx ty i = -6
    · rw [wn_fs_n6 z] at h hN
      exact br_t (hc.mpr z) (nm_r (nI_1 i) (ih (i + 1) o (by omega) hN h))
    · refine br_f (fun y => z (hc.mp y)) ?_
      cases o with
      | none =>
        rw [wn_fs_n z] at h hN
        exact br_t (by decide) (nm_r (nI_1 i) (ih (i + 1) (some i) (by omega) hN h))
      | some m =>
        have hm := (hP.2 m rfl).1
        have em : tot (wn_o1 (some m)).toNatClampNeg = wn_c t vc pc tx ty m := by
          rw [wn_o1, nI_clamp (by omega)]
          exact hT m (by omega)
        refine br_f (nI_pos (n := m) (by omega)) ⟨hv, vp_in_nI (n := m) (by omega) (by decide), ?_⟩
        rw [em]
        by_cases y : wn_c t vc pc tx ty m ≤ wn_c t vc pc tx ty i
        · rw [wn_fs_le z y] at h hN
          exact br_t y (nm_r (nI_1 i) (ih (i + 1) (some m) (by omega) hN h))
        · rw [wn_fs_gt z y] at h hN
          exact br_f y (nm_r (nI_1 i) (ih (i + 1) (some i) (by omega) hN h))
theorem wn_Yf {post : Int32 → SY → Prop} (hk : wn_ok t vc pc tx ty) (hT : wn_T t kn vc pc tx ty tot)
    (h : ∀ (kn' : Int32) (tot' : Nat → Int32), (∀ j, j < 729 → tot' j = wn_c t vc pc tx ty j) → post (wn_o1 (wn_B (wn_c t vc pc tx ty))) (nI t, kn', vc, tx, ty, pc, tot')) : wpY_first post (nI t, kn, vc, tx, ty, pc, tot) := by
  unfold wpY_first
  dsimp only
  refine wn_Yw hk hT (fun kn' tot' hT' => ?_)
  exact ⟨730, wn_Y9 post hk hT' 729 0 none (by decide) (wn_P0 _) (h kn' tot' hT')⟩
theorem wn_Yl {post : Int32 → SY → Prop} (hk : wn_ok t vc pc tx ty) (hT : wn_T t kn vc pc tx ty tot)
    (h : ∀ (kn' : Int32) (tot' : Nat → Int32), (∀ j, j < 729 → tot' j = wn_c t vc pc tx ty j) → post (wn_L (wn_c t vc pc tx ty)) (nI t, kn', vc, tx, ty, pc, tot')) : wpY_least post (nI t, kn, vc, tx, ty, pc, tot) := by
  have hP := wn_B_P (wn_c t vc pc tx ty)
  unfold wn_L at h
  unfold wpY_least
  dsimp only
  refine wn_Yf hk hT (fun kn' tot' hT' => ?_)
  have h' := h kn' tot' hT'
  generalize wn_B (wn_c t vc pc tx ty) = o at hP h'
  cases o with
  | none => exact br_f (by decide) h'
  | some j =>
    have hj := (hP.2 j rfl).1
    have em : tot' (wn_o1 (some j)).toNatClampNeg = wn_c t vc pc tx ty j := by
      rw [wn_o1, nI_clamp (by omega)]
      exact hT' j (by omega)
    refine br_t (nI_pos' (n := j) (by omega)) ⟨vp_in_nI (n := j) (by omega) (by decide), ?_⟩
    dsimp only
    rw [em]
    exact h'
theorem wn_Y66a (post : Int32 → SY → Prop) {J : Int32 → Int32 → Prop} {x1 x2 b : Int32} {i : Nat} (h : J b (nI (i + 1))) : wY_leastWith_65 post J x1 x2 b (nI i) (nI t) kn vc tx ty pc tot :=
  br_t rfl (nm_r (nI_1 i) h)
theorem wn_Y32 (post : Int32 → SY → Prop) (hk : wn_ok t vc pc tx ty) (hT : ∀ j, j < 729 → tot j = wn_c t vc pc tx ty j) {x : Nat} (hx : x < 6) (y : Int32) : ∀ (r i : Nat) (b : Int32), i + r = 729 → wn_v b → post (wn_W (wn_c t vc pc tx ty) (fun k => decide (nI (wn_dg (5 - x) k) = y)) r i b) (nI t, kn, vc, tx, ty, pc, tot) → wY_leastWith_32 post (nI x) y (nI t) kn vc tx ty pc tot (r + 1) b (nI i) := by
  intro r
  induction r with
  | zero => exact fun i b hi _ h => br_t (nI_le (a := 729) (by omega) (by omega)) h
  | succ r ih =>
    intro i b hi hb h
    have hc := wn_v_neg (wn_c_v hk i)
    have hb6 := wn_v_neg hb
    have hN := wn_ws_v (p := fun k => decide (nI (wn_dg (5 - x) k) = y)) (wn_c_v hk i) hb
    have hv : vp_in (nI i) 729 := vp_in_nI (by omega) (by decide)
    have ei : tot (nI i).toNatClampNeg = wn_c t vc pc tx ty i := by
      rw [nI_clamp (by omega)]
      exact hT i (by omega)
    rw [wn_W] at h
    unfold wn_ws at h hN
    refine br_f (nI_ge (b := 729) (by omega) (by decide)) ⟨hv, ?_⟩
    rw [ei]
    by_cases z : wn_c t vc pc tx ty i = -6
    · rw [if_pos z, ite_self] at h hN
      exact br_t (hc.mpr z) (wn_Y66a post (ih (i + 1) b (by omega) hb h))
    · refine br_f (fun w => z (hc.mp w)) (wn_Yv (by omega) hx ?_)
      by_cases p : nI (wn_dg (5 - x) i) = y
      · rw [if_pos (decide_eq_true p), if_neg z] at h hN
        refine br_t p (br_f (by decide) ?_)
        by_cases q : b = -6
        · rw [if_pos q] at h hN
          exact br_t (hb6.mpr q) ⟨hv, nm_r ei (nm_r (nI_1 i) (ih (i + 1) _ (by omega) hN h))⟩
        · rw [if_neg q] at h hN
          refine br_f (fun w => q (hb6.mp w)) ⟨hv, ?_⟩
          by_cases w : b ≤ wn_c t vc pc tx ty i
          · rw [if_pos w] at h hN
            exact br_t (ei.symm ▸ w) (nm_r (nI_1 i) (ih (i + 1) _ (by omega) hN h))
          · rw [if_neg w] at h hN
            exact br_f (ei.symm ▸ w) ⟨hv, nm_r ei (nm_r (nI_1 i) (ih (i + 1) _ (by omega) hN h))⟩
      · rw [if_neg (fun e => p (of_decide_eq_true e))] at h hN
        exact br_f p (wn_Y66a post (ih (i + 1) b (by omega) hb h))
theorem wn_Y8 (post : Int32 → SY → Prop) (hT : ∀ j, j < 729 → tot j = wn_c t vc pc tx ty j) (y : Int32) : ∀ (r i : Nat) (n : Int32), i + r = 729 → post (wn_N (fun k => decide (¬ wn_c t vc pc tx ty k < 0 ∧ ¬ y < wn_c t vc pc tx ty k)) r i n) (nI t, kn, vc, tx, ty, pc, tot) → wY_upTo_8 post y (nI t) kn vc tx ty pc tot (r + 1) n (nI i) := by
  intro r
  induction r with
  | zero => exact fun i b hi h => br_t (nI_le (a := 729) (by omega) (by omega)) h
  | succ r ih =>
    intro i n hi h
    have hv : vp_in (nI i) 729 := vp_in_nI (by omega) (by decide)
    have ei : tot (nI i).toNatClampNeg = wn_c t vc pc tx ty i := by
      rw [nI_clamp (by omega)]
      exact hT i (by omega)
    rw [wn_N] at h
    refine br_f (nI_ge (b := 729) (by omega) (by decide)) ⟨hv, ?_⟩
    rw [ei]
    by_cases p : wn_c t vc pc tx ty i < 0
    · rw [if_neg (fun e => (of_decide_eq_true e).1 p)] at h
      exact br_t p (nm_r (nI_1 i) (ih (i + 1) _ (by omega) h))
    · refine br_f p ⟨hv, ?_⟩
      by_cases q : y < wn_c t vc pc tx ty i
      · rw [if_neg (fun e => (of_decide_eq_true e).2 q)] at h
        exact br_t q (nm_r (nI_1 i) (ih (i + 1) _ (by omega) h))
      · rw [if_pos (decide_eq_true ⟨p, q⟩)] at h
        exact br_f q (nm_e (nm_r (nI_1 i) (ih (i + 1) _ (by omega) h)))
/-- how many cost no more than y -/
def wn_U (t : Nat) (vc pc tx ty : Nat → Int32) (y : Int32) : Int32 := wn_N (fun k => decide (¬ wn_c t vc pc tx ty k < 0 ∧ ¬ y < wn_c t vc pc tx ty k)) 729 0 0
theorem wn_Yu {post : Int32 → SY → Prop} (hk : wn_ok t vc pc tx ty) (hT : wn_T t kn vc pc tx ty tot) (y : Int32)
    (h : ∀ (kn' : Int32) (tot' : Nat → Int32), (∀ j, j < 729 → tot' j = wn_c t vc pc tx ty j) → post (wn_U t vc pc tx ty y) (nI t, kn', vc, tx, ty, pc, tot')) : wpY_upTo post (nI t, kn, vc, tx, ty, pc, tot) y := by
  unfold wpY_upTo
  dsimp only
  refine wn_Yw hk hT (fun kn' tot' hT' => ?_)
  exact ⟨730, wn_Y8 post hT' y 729 0 0 (by decide) (h kn' tot' hT')⟩
theorem wn_Y26 (post : Int32 → SY → Prop) (hT : ∀ j, j < 729 → tot j = wn_c t vc pc tx ty j) {x z : Nat} (hx : x < 6) (hz : z < 6) (y : Int32) : ∀ (r i : Nat), i + r = 729 → post (wn_A (fun k => decide (¬ y < 0 ∧ nI (wn_dg (5 - x) k) = nI (wn_dg (5 - z) k) ∧ wn_c t vc pc tx ty k = y)) r i) (nI t, kn, vc, tx, ty, pc, tot) → wY_canAgree_26 post (nI x) (nI z) y (nI t) kn vc tx ty pc tot (r + 1) (nI i) := by
  intro r
  induction r with
  | zero => exact fun i hi h => br_t (nI_le (a := 729) (by omega) (by omega)) h
  | succ r ih =>
    intro i hi h
    have hv : vp_in (nI i) 729 := vp_in_nI (by omega) (by decide)
    have ei : tot (nI i).toNatClampNeg = wn_c t vc pc tx ty i := by
      rw [nI_clamp (by omega)]
      exact hT i (by omega)
    rw [wn_A] at h
    refine br_f (nI_ge (b := 729) (by omega) (by decide)) ?_
    by_cases w : y < 0
    · rw [if_neg (fun e => (of_decide_eq_true e).1 w)] at h
      exact br_t w (nm_r (nI_1 i) (ih (i + 1) (by omega) h))
    · refine br_f w ⟨hv, ?_⟩
      rw [ei]
      by_cases q : wn_c t vc pc tx ty i = y
      · refine br_t q (wn_Yv (by omega) hx (wn_Yv (by omega) hz ?_))
        by_cases p : nI (wn_dg (5 - x) i) = nI (wn_dg (5 - z) i)
        · rw [if_pos (decide_eq_true ⟨w, p, q⟩)] at h
          exact br_t p h
        · rw [if_neg (fun e => p (of_decide_eq_true e).2.1)] at h
          exact br_f p (nm_r (nI_1 i) (ih (i + 1) (by omega) h))
      · rw [if_neg (fun e => q (of_decide_eq_true e).2.2)] at h
        exact br_f q (nm_r (nI_1 i) (ih (i + 1) (by omega) h))
theorem wn_Yt57 (post : Int32 → SY → Prop) (ht : t < 8) : ∀ (r i : Nat) (pc : Nat → Int32), i + r = 9 → post (nI t) (nI (t + 1), 0, vc, tx, ty, wn_Z t r i pc, tot) → wY_table_57 post (nI t) kn (r + 1) (nI i) vc tx ty pc tot := by
  intro r
  induction r with
  | zero =>
    intro i pc hi h
    refine br_t (nI_le (a := 9) (by omega) (by omega)) (nm_r (nI_1 t) ?_)
    rw [nI_pred]
    exact h
  | succ r ih =>
    intro i pc hi h
    have en : nI t * 9 + nI i = nI (t * 9 + i) := by
      rw [show (9 : Int32) = nI 9 from rfl, pk_mul, nI_add]
    refine br_f (nI_ge (b := 9) (by omega) (by decide)) ?_
    rw [en, nI_clamp (by omega)]
    exact ⟨vp_in_nI (by omega) (by decide), nm_e (nm_r (nI_1 i) (ih (i + 1) _ (by omega) h))⟩
theorem wn_YvB {post : Int32 → Prop} {v : SY} {x : Int32} (hx : x < 0 ∨ (¬ x < 0 ∧ nI 6 ≤ x)) (h : post 0) : wpY_isVariable post v x := by
  rcases hx with a | ⟨a, b⟩
  · exact br_t a h
  · exact br_f a (br_t b h)
theorem wn_YvG {post : Int32 → Prop} {v : SY} {j : Nat} (hj : j < 6) (h : post 1) : wpY_isVariable post v (nI j) :=
  br_f (nI_pos (by omega)) (br_f (nI_ge (b := 6) hj (by decide)) h)
end
end
section
/-- both keep the same costs, tables and count; the reference's totals are right where it says that it knows them -/
def i_Rel (_ : Nat) (u : SX) (v : SY) : Prop := ∃ (t : Nat) (kn : Int32) (vc pc tx ty tot : Nat → Int32),
  wn_ok t vc pc tx ty ∧ wn_T t kn vc pc tx ty tot ∧ u = (nI t, vc, pc, tx, ty) ∧ v = (nI t, kn, vc, tx, ty, pc, tot)
theorem wn_R {k t : Nat} {kn : Int32} {vc pc tx ty tot : Nat → Int32} (hk : wn_ok t vc pc tx ty) (hT : wn_T t kn vc pc tx ty tot) : i_Rel k (nI t, vc, pc, tx, ty) (nI t, kn, vc, tx, ty, pc, tot) :=
  ⟨t, kn, vc, pc, tx, ty, tot, hk, hT, rfl, rfl⟩
theorem wn_RT {k t : Nat} {kn : Int32} {vc pc tx ty tot : Nat → Int32} (hk : wn_ok t vc pc tx ty) (hT : ∀ j, j < 729 → tot j = wn_c t vc pc tx ty j) : i_Rel k (nI t, vc, pc, tx, ty) (nI t, kn, vc, tx, ty, pc, tot) :=
  wn_R hk (fun _ => hT)
theorem wn_R0 {k t : Nat} {vc pc tx ty tot : Nat → Int32} (hk : wn_ok t vc pc tx ty) : i_Rel k (nI t, vc, pc, tx, ty) (nI t, 0, vc, tx, ty, pc, tot) :=
  wn_R hk (fun z => absurd rfl z)
theorem i_up {k : Nat} {u : SX} {v : SY} (h : i_Rel k u v) : i_Rel (k + 4) u v := h
theorem i_vc0 : wpX_init (fun u => wpY_init (fun v => i_Rel 0 u v)) :=
  wn_R0 (k := 0) (t := 0) ⟨by decide, fun _ _ => ⟨0, by decide, rfl⟩, fun _ _ => ⟨0, by decide, rfl⟩, fun _ _ => ⟨0, by decide, rfl⟩, fun _ _ => ⟨0, by decide, rfl⟩⟩
theorem i_vc_cost {k : Nat} {u : SX} {v : SY} (I : i_Rel k u v) (hk : k + 4 ≤ 2048) (v1 : Int32) (v2 : Int32) (v3 : Int32) : wpX_cost (fun r u' => wpY_cost (fun r' v' => r' = r ∧ i_Rel (k + 4) u' v') v v1 v2 v3) u v1 v2 v3 := by
  obtain ⟨t, kn, vc, pc, tx, ty, tot, ok, hT, rfl, rfl⟩ := I
  unfold wpX_cost wpY_cost
  dsimp only
  rcases wn_arg v1 6 (by decide) with b | ⟨j, hj, rfl⟩
  · refine wn_XvB b (br_t rfl ?_)
    refine wn_YvB b (br_t rfl ?_)
    exact ⟨rfl, wn_R ok hT⟩
  · refine wn_XvG hj (br_f (by decide) ?_)
    rcases wn_arg v2 3 (by decide) with b | ⟨m, hm, rfl⟩
    · refine wn_XuB b (br_t rfl ?_)
      refine wn_YvG hj (br_f (by decide) ?_)
      rcases b with b | ⟨b, d⟩
      · exact br_t b ⟨rfl, wn_R ok hT⟩
      · exact br_f b (br_f (wn_nle (n := 2) (by decide) d) ⟨rfl, wn_R ok hT⟩)
    · refine wn_XuG hm (br_f (by decide) ?_)
      rcases wn_arg v3 21 (by decide) with b | ⟨q, hq, rfl⟩
      · refine wn_XkB b (br_t rfl ?_)
        refine wn_YvG hj (br_f (by decide) (br_f (nI_pos (by omega)) (br_t (nI_le (b := 2) (by omega) (by decide)) ?_)))
        rcases b with b | ⟨b, d⟩
        · exact br_t b ⟨rfl, wn_R ok hT⟩
        · exact br_f b (br_f (wn_nle (n := 20) (by decide) d) ⟨rfl, wn_R ok hT⟩)
      · refine wn_XkG hq (br_f (by decide) ?_)
        have en : nI j * 3 + nI m = nI (j * 3 + m) := by
          rw [show (3 : Int32) = nI 3 from rfl, pk_mul, nI_add]
        have hi : vp_in (nI (j * 3 + m)) 18 := vp_in_nI (by omega) (by decide)
        rw [en]
        refine nm_e ⟨hi, nm_e ⟨hi, nm_e ?_⟩⟩
        refine wn_YvG hj (br_f (by decide) (br_f (nI_pos (by omega)) (br_t (nI_le (b := 2) (by omega) (by decide)) (br_f (nI_pos (by omega)) (br_t (nI_le (b := 20) (by omega) (by decide)) ?_)))))
        rw [nI_clamp (by omega)]
        refine ⟨hi, nm_e ⟨hi, nm_e ⟨rfl, wn_R0 ?_⟩⟩⟩
        exact ⟨ok.1, wn_upd_k ok.2.1 ⟨q, by omega, rfl⟩, ok.2.2⟩
theorem i_vc_table {k : Nat} {u : SX} {v : SY} (I : i_Rel k u v) (hk : k + 4 ≤ 2048) (v1 : Int32) (v2 : Int32) : wpX_table (fun r u' => wpY_table (fun r' v' => r' = r ∧ i_Rel (k + 4) u' v') v v1 v2) u v1 v2 := by
  obtain ⟨t, kn, vc, pc, tx, ty, tot, ok, hT, rfl, rfl⟩ := I
  have ht := ok.1
  unfold wpX_table wpY_table
  dsimp only
  rcases wn_arg v1 6 (by decide) with b | ⟨j, hj, rfl⟩
  · refine wn_XvB b (br_t rfl ?_)
    refine wn_YvB b (br_t rfl ?_)
    exact ⟨rfl, wn_R ok hT⟩
  · refine wn_XvG hj (br_f (by decide) ?_)
    rcases wn_arg v2 6 (by decide) with b | ⟨m, hm, rfl⟩
    · refine wn_XvB b (br_t rfl ?_)
      refine wn_YvG hj (br_f (by decide) ?_)
      refine wn_YvB b (br_t rfl ?_)
      exact ⟨rfl, wn_R ok hT⟩
    · refine wn_XvG hm (br_f (by decide) ?_)
      by_cases e : nI j = nI m
      · refine br_t e ?_
        refine wn_YvG hj (br_f (by decide) ?_)
        refine wn_YvG hm (br_f (by decide) (br_t e ?_))
        exact ⟨rfl, wn_R ok hT⟩
      · refine br_f e ?_
        by_cases h8 : t < 8
        · have hi : vp_in (nI t) 8 := vp_in_nI h8 (by decide)
          refine br_t (nI_lt (b := 8) h8 (by decide)) ?_
          rw [nI_clamp (by omega)]
          refine ⟨hi, nm_e ⟨hi, nm_e ⟨10, wn_Xt55 _ h8 9 0 pc (by decide) ?_⟩⟩⟩
          refine wn_YvG hj (br_f (by decide) ?_)
          refine wn_YvG hm (br_f (by decide) (br_f e ?_))
          refine br_f (fun z => absurd ((nI_eq (b := 8) (by omega) (by decide)).mp z) (by omega)) ?_
          refine ⟨hi, nm_e ⟨hi, nm_e ⟨10, wn_Yt57 _ h8 9 0 pc (by decide) ?_⟩⟩⟩
          refine ⟨rfl, wn_R0 ?_⟩
          exact ⟨by omega, ok.2.1, wn_Z_k t 9 0 pc ok.2.2.1, wn_upd_x ok.2.2.2.1 ⟨j, hj, rfl⟩, wn_upd_x ok.2.2.2.2 ⟨m, hm, rfl⟩⟩
        · obtain rfl : t = 8 := by omega
          refine br_f (nI_nlt (a := 8) (b := 8) (by omega) (by decide)) ?_
          refine wn_YvG hj (br_f (by decide) ?_)
          refine wn_YvG hm (br_f (by decide) (br_f e (br_t rfl ?_)))
          exact ⟨rfl, wn_R ok hT⟩
theorem i_vc_pair {k : Nat} {u : SX} {v : SY} (I : i_Rel k u v) (hk : k + 4 ≤ 2048) (v1 : Int32) (v2 : Int32) (v3 : Int32) : wpX_pair (fun r u' => wpY_pair (fun r' v' => r' = r ∧ i_Rel (k + 4) u' v') v v1 v2 v3) u v1 v2 v3 := by
  obtain ⟨t, kn, vc, pc, tx, ty, tot, ok, hT, rfl, rfl⟩ := I
  have ht := ok.1
  unfold wpX_pair wpY_pair
  dsimp only
  rcases wn_arg v1 t (by omega) with (b | ⟨b, d⟩) | ⟨j, hj, rfl⟩
  · exact br_t b (br_t b ⟨rfl, wn_R ok hT⟩)
  · exact br_f b (br_f (wn_nlt d) (br_f b (br_f (wn_nlt d) ⟨rfl, wn_R ok hT⟩)))
  · have a1 : ¬ nI j < 0 := nI_pos (by omega)
    have a2 : nI j < nI t := nI_lt hj (by omega)
    refine br_f a1 (br_t a2 ?_)
    rcases wn_arg v2 9 (by decide) with (b | ⟨b, d⟩) | ⟨m, hm, rfl⟩
    · exact br_t b (br_f a1 (br_t a2 (br_t b ⟨rfl, wn_R ok hT⟩)))
    · exact br_f b (br_f (wn_nlt (n := 9) d) (br_f a1 (br_t a2 (br_f b (br_f (wn_nle (n := 8) (by decide) d) ⟨rfl, wn_R ok hT⟩)))))
    · have b1 : ¬ nI m < 0 := nI_pos (by omega)
      have b2 : nI m < 9 := nI_lt (b := 9) hm (by decide)
      have b3 : nI m ≤ 8 := nI_le (b := 8) (by omega) (by decide)
      refine br_f b1 (br_t b2 ?_)
      rcases wn_arg v3 21 (by decide) with b | ⟨q, hq, rfl⟩
      · refine wn_XkB b (br_t rfl ?_)
        refine br_f a1 (br_t a2 (br_f b1 (br_t b3 ?_)))
        rcases b with b | ⟨b, d⟩
        · exact br_t b ⟨rfl, wn_R ok hT⟩
        · exact br_f b (br_f (wn_nle (n := 20) (by decide) d) ⟨rfl, wn_R ok hT⟩)
      · refine wn_XkG hq (br_f (by decide) ?_)
        have en : nI j * 9 + nI m = nI (j * 9 + m) := by
          rw [show (9 : Int32) = nI 9 from rfl, pk_mul, nI_add]
        have hi : vp_in (nI (j * 9 + m)) 72 := vp_in_nI (by omega) (by decide)
        rw [en]
        refine nm_e ⟨hi, nm_e ⟨hi, nm_e ?_⟩⟩
        refine br_f a1 (br_t a2 (br_f b1 (br_t b3 (br_f (nI_pos (by omega)) (br_t (nI_le (b := 20) (by omega) (by decide)) ?_)))))
        rw [nI_clamp (by omega)]
        refine ⟨hi, nm_e ⟨hi, nm_e ⟨rfl, wn_R0 ?_⟩⟩⟩
        exact ⟨ok.1, ok.2.1, wn_upd_k ok.2.2.1 ⟨q, by omega, rfl⟩, ok.2.2.2⟩
theorem i_vc_drop {k : Nat} {u : SX} {v : SY} (I : i_Rel k u v) (hk : k + 4 ≤ 2048) : wpX_drop (fun r u' => wpY_drop (fun r' v' => r' = r ∧ i_Rel (k + 4) u' v') v) u := by
  obtain ⟨t, kn, vc, pc, tx, ty, tot, ok, hT, rfl, rfl⟩ := I
  have ht := ok.1
  cases t with
  | zero => exact br_t rfl (br_t rfl ⟨rfl, wn_R ok hT⟩)
  | succ t =>
    have z : ¬ nI (t + 1) = 0 := nI_ne0 (by omega) (by omega)
    refine br_f z (nm_r (nI_pred t) (br_f z (nm_r (nI_pred t) ⟨rfl, wn_R0 ?_⟩)))
    exact ⟨by omega, ok.2⟩
theorem i_vc_least {k : Nat} {u : SX} {v : SY} (I : i_Rel k u v) (hk : k + 4 ≤ 2048) : wpX_least (fun r => wpY_least (fun r' v' => r' = r ∧ i_Rel (k + 4) u v') v) u := by
  obtain ⟨t, kn, vc, pc, tx, ty, tot, ok, hT, rfl, rfl⟩ := I
  exact wn_Xl ok (wn_Yl ok hT (fun kn' tot' hT' => ⟨rfl, wn_RT ok hT'⟩))
theorem i_vc_value {k : Nat} {u : SX} {v : SY} (I : i_Rel k u v) (hk : k + 4 ≤ 2048) (v1 : Int32) : wpX_value (fun r => wpY_value (fun r' v' => r' = r ∧ i_Rel (k + 4) u v') v v1) u v1 := by
  obtain ⟨t, kn, vc, pc, tx, ty, tot, ok, hT, rfl, rfl⟩ := I
  unfold wpX_value wpY_value
  dsimp only
  rcases wn_arg v1 6 (by decide) with b | ⟨j, hj, rfl⟩
  · refine wn_XvB b (br_t rfl ?_)
    refine wn_YvB b (br_t rfl ?_)
    exact ⟨rfl, wn_R ok hT⟩
  · refine wn_XvG hj (br_f (by decide) ?_)
    have hP := wn_B_P (wn_c t vc pc tx ty)
    refine wn_Xf ok ?_
    cases e : wn_B (wn_c t vc pc tx ty) with
    | none =>
      refine br_t rfl ?_
      refine wn_YvG hj (br_f (by decide) ?_)
      refine wn_Yf ok hT (fun kn' tot' hT' => ?_)
      rw [e]
      exact br_f (by decide) ⟨rfl, wn_RT ok hT'⟩
    | some m =>
      have hm := (hP.2 m e).1
      refine br_f (wn_n6 (j := m) (by omega)) ?_
      refine wn_Xv hm hj ?_
      refine wn_YvG hj (br_f (by decide) ?_)
      refine wn_Yf ok hT (fun kn' tot' hT' => ?_)
      rw [e]
      refine br_t (nI_pos' (n := m) (by omega)) ?_
      exact wn_Yv hm hj ⟨rfl, wn_RT ok hT'⟩
theorem i_vc_leastWith {k : Nat} {u : SX} {v : SY} (I : i_Rel k u v) (hk : k + 4 ≤ 2048) (v1 : Int32) (v2 : Int32) : wpX_leastWith (fun r => wpY_leastWith (fun r' v' => r' = r ∧ i_Rel (k + 4) u v') v v1 v2) u v1 v2 := by
  obtain ⟨t, kn, vc, pc, tx, ty, tot, ok, hT, rfl, rfl⟩ := I
  unfold wpX_leastWith wpY_leastWith
  dsimp only
  rcases wn_arg v1 6 (by decide) with b | ⟨j, hj, rfl⟩
  · refine wn_XvB b (br_t rfl ?_)
    refine wn_YvB b (br_t rfl ?_)
    exact ⟨rfl, wn_R ok hT⟩
  · refine wn_XvG hj (br_f (by decide) ?_)
    rcases wn_arg v2 3 (by decide) with b | ⟨m, hm, rfl⟩
    · refine wn_XuB b (br_t rfl ?_)
      refine wn_YvG hj (br_f (by decide) ?_)
      rcases b with b | ⟨b, d⟩
      · exact br_t b ⟨rfl, wn_R ok hT⟩
      · exact br_f b (br_f (wn_nle (n := 2) (by decide) d) ⟨rfl, wn_R ok hT⟩)
    · refine wn_XuG hm (br_f (by decide) ⟨730, wn_X25 _ ok hj (nI m) 729 0 (-6) (by decide) ?_⟩)
      refine wn_YvG hj (br_f (by decide) (br_f (nI_pos (by omega)) (br_t (nI_le (b := 2) (by omega) (by decide)) ?_)))
      refine wn_Yw ok hT (fun kn' tot' hT' => ?_)
      exact ⟨730, wn_Y32 _ ok hT' hj (nI m) 729 0 (-6) (by decide) (Or.inl rfl) ⟨rfl, wn_RT ok hT'⟩⟩
/-- as many are as cheap as the least as cost no more -/
theorem wn_tie {t : Nat} {vc pc tx ty : Nat → Int32} (ok : wn_ok t vc pc tx ty) {m : Nat} (e : wn_B (wn_c t vc pc tx ty) = some m) : wn_U t vc pc tx ty (wn_c t vc pc tx ty m) = wn_N (fun k => decide (wn_c t vc pc tx ty k = wn_c t vc pc tx ty m)) 729 0 0 := by
  obtain ⟨hm, zm, hl⟩ := (wn_B_P (wn_c t vc pc tx ty)).2 m e
  refine wn_N_c 729 0 0 (fun i _ hi => decide_eq_decide.mpr ?_)
  have hn := wn_v_neg (wn_c_v ok i)
  constructor
  · intro ⟨h1, h2⟩
    have h3 := hl i (by omega) (fun z => h1 (hn.mpr z))
    rw [Int32.le_iff_toInt_le] at h3
    rw [Int32.lt_iff_toInt_lt] at h2
    exact Int32.toInt_inj.mp (by omega)
  · intro h
    rw [hn, h]
    exact ⟨zm, Int32.lt_irrefl⟩
theorem i_vc_ties {k : Nat} {u : SX} {v : SY} (I : i_Rel k u v) (hk : k + 4 ≤ 2048) : wpX_ties (fun r => wpY_ties (fun r' v' => r' = r ∧ i_Rel (k + 4) u v') v) u := by
  obtain ⟨t, kn, vc, pc, tx, ty, tot, ok, hT, rfl, rfl⟩ := I
  unfold wpX_ties wpY_ties
  dsimp only
  refine wn_Xl ok ?_
  have hv := wn_v_neg (wn_L_v (wn_c_v ok))
  cases e : wn_B (wn_c t vc pc tx ty) with
  | none =>
    have el : wn_L (wn_c t vc pc tx ty) = -6 := by unfold wn_L; rw [e]; rfl
    refine br_t el ?_
    refine wn_Yl ok hT (fun kn' tot' hT' => ?_)
    rw [el]
    exact br_f (by decide) ⟨rfl, wn_RT ok hT'⟩
  | some m =>
    have el : wn_L (wn_c t vc pc tx ty) = wn_c t vc pc tx ty m := by unfold wn_L; rw [e]; rfl
    have zm := ((wn_B_P (wn_c t vc pc tx ty)).2 m e).2.1
    have nz : ¬ wn_c t vc pc tx ty m < 0 := fun z => zm ((wn_v_neg (wn_c_v ok m)).mp z)
    rw [el]
    refine br_f zm ⟨730, wn_X17 _ ok _ 729 0 0 (by decide) ?_⟩
    refine wn_Yl ok hT (fun kn' tot' hT' => ?_)
    rw [el]
    refine br_t (Int32.not_lt.mp nz) ?_
    refine wn_Yu ok (fun _ => hT') _ (fun kn2 tot2 hT2 => ?_)
    exact ⟨wn_tie ok e, wn_RT ok hT2⟩
theorem i_vc_allowed {k : Nat} {u : SX} {v : SY} (I : i_Rel k u v) (hk : k + 4 ≤ 2048) : wpX_allowed (fun r => wpY_allowed (fun r' v' => r' = r ∧ i_Rel (k + 4) u v') v) u := by
  obtain ⟨t, kn, vc, pc, tx, ty, tot, ok, hT, rfl, rfl⟩ := I
  unfold wpX_allowed wpY_allowed
  dsimp only
  refine ⟨730, wn_Xa4 _ ok 729 0 0 (by decide) ?_⟩
  refine wn_Yu ok hT _ (fun kn' tot' hT' => ?_)
  refine ⟨?_, wn_RT ok hT'⟩
  refine wn_N_c 729 0 0 (fun i _ hi => decide_eq_decide.mpr ?_)
  rw [wn_v_neg (wn_c_v ok i)]
  exact ⟨fun h => h.1, fun h => ⟨h, wn_v_le (wn_c_v ok i)⟩⟩
theorem i_vc_upTo {k : Nat} {u : SX} {v : SY} (I : i_Rel k u v) (hk : k + 4 ≤ 2048) (v1 : Int32) : wpX_upTo (fun r => wpY_upTo (fun r' v' => r' = r ∧ i_Rel (k + 4) u v') v v1) u v1 := by
  obtain ⟨t, kn, vc, pc, tx, ty, tot, ok, hT, rfl, rfl⟩ := I
  refine ⟨730, wn_Xu4 _ ok v1 729 0 0 (by decide) ?_⟩
  refine wn_Yu ok hT _ (fun kn' tot' hT' => ?_)
  refine ⟨?_, wn_RT ok hT'⟩
  refine wn_N_c 729 0 0 (fun i _ hi => decide_eq_decide.mpr ?_)
  rw [wn_v_neg (wn_c_v ok i)]
theorem i_vc_canAgree {k : Nat} {u : SX} {v : SY} (I : i_Rel k u v) (hk : k + 4 ≤ 2048) (v1 : Int32) (v2 : Int32) : wpX_canAgree (fun r => wpY_canAgree (fun r' v' => r' = r ∧ i_Rel (k + 4) u v') v v1 v2) u v1 v2 := by
  obtain ⟨t, kn, vc, pc, tx, ty, tot, ok, hT, rfl, rfl⟩ := I
  unfold wpX_canAgree wpY_canAgree
  dsimp only
  rcases wn_arg v1 6 (by decide) with b | ⟨j, hj, rfl⟩
  · refine wn_XvB b (br_t rfl ?_)
    refine wn_YvB b (br_t rfl ?_)
    exact ⟨rfl, wn_R ok hT⟩
  · refine wn_XvG hj (br_f (by decide) ?_)
    rcases wn_arg v2 6 (by decide) with b | ⟨m, hm, rfl⟩
    · refine wn_XvB b (br_t rfl ?_)
      refine wn_YvG hj (br_f (by decide) ?_)
      refine wn_YvB b (br_t rfl ?_)
      exact ⟨rfl, wn_R ok hT⟩
    · refine wn_XvG hm (br_f (by decide) (wn_Xl ok ?_))
      have hv := wn_v_neg (wn_L_v (wn_c_v ok))
      by_cases z : wn_L (wn_c t vc pc tx ty) = -6
      · refine br_t z ?_
        refine wn_YvG hj (br_f (by decide) ?_)
        refine wn_YvG hm (br_f (by decide) ?_)
        refine wn_Yl ok hT (fun kn' tot' hT' => ?_)
        refine ⟨730, wn_Y26 _ hT' hj hm _ 729 0 (by decide) ⟨?_, wn_RT ok hT'⟩⟩
        have e0 : ∀ r i : Nat, wn_A (fun _ => false) r i = 0 := by
          intro r
          induction r with
          | zero => exact fun _ => rfl
          | succ r ih => exact fun i => ih (i + 1)
        rw [← e0 729 0]
        exact wn_A_c 729 0 (fun i _ _ => decide_eq_false (fun h => h.1 (hv.mpr z)))
      · refine br_f z ⟨730, wn_X32 _ ok hj hm _ 729 0 (by decide) ?_⟩
        refine wn_YvG hj (br_f (by decide) ?_)
        refine wn_YvG hm (br_f (by decide) ?_)
        refine wn_Yl ok hT (fun kn' tot' hT' => ?_)
        refine ⟨730, wn_Y26 _ hT' hj hm _ 729 0 (by decide) ⟨?_, wn_RT ok hT'⟩⟩
        exact wn_A_c 729 0 (fun i _ _ => decide_eq_decide.mpr ⟨fun h => h.2, fun h => ⟨fun w => z (hv.mp w), h⟩⟩)
end
