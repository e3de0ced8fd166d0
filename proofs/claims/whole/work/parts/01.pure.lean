theorem pk_us {f : Nat → Int32} {k : Nat} {x : Int32} : upd f k x k = x := if_pos rfl
theorem pk_un {f : Nat → Int32} {k j : Nat} {x : Int32} (h : j ≠ k) : upd f k x j = f j := if_neg h
theorem pk_sub {a b : Nat} (h : b ≤ a) : nI a - nI b = nI (a - b) := by
  obtain ⟨c, rfl⟩ : ∃ c, a = c + b := ⟨a - b, by omega⟩
  rw [← nI_add, Int32.add_sub_cancel, Nat.add_sub_cancel]
theorem pk_m1 (n : Nat) : nI (n + 1) + (-1) = nI n := by
  rw [← nI_1, Int32.add_assoc, show (1 : Int32) + (-1) = 0 from rfl, Int32.add_zero]
theorem pk_mul (a b : Nat) : nI a * nI b = nI (a * b) := (Int32.ofNat_mul a b).symm
theorem pk_div {a d : Nat} (ha : a < 2 ^ 31) (h0 : 0 < d) (hd : d < 2 ^ 31) : nI a / nI d = nI (a / d) := by
  apply Int32.toInt_inj.mp
  rw [lg_idiv_nonneg (by rw [nI_toInt ha]; omega) (by rw [nI_toInt hd]; omega), nI_toInt ha, nI_toInt hd, nI_toInt (Nat.lt_of_le_of_lt (Nat.div_le_self a d) ha)]
  first | rfl | exact (Int.natCast_ediv _ _).symm
theorem pk_rem {a d : Nat} (ha : a < 2 ^ 31) (h0 : 0 < d) (hd : d < 2 ^ 31) : nI a - nI a / nI d * nI d = nI (a % d) := by
  rw [pk_div ha h0 hd, pk_mul, pk_sub (Nat.div_mul_le_self a d)]
  exact congrArg nI (by have := Nat.div_add_mod' a d; omega)
theorem pk_ix (x : Int32) {n : Nat} (hn : n < 2 ^ 31) : x < 0 ∨ nI n ≤ x ∨ ∃ j : Nat, j < n ∧ x = nI j := by
  by_cases h : x < 0
  · exact Or.inl h
  · obtain ⟨j, hj, rfl⟩ := nI_of h
    by_cases h2 : j < n
    · exact Or.inr (Or.inr ⟨j, h2, rfl⟩)
    · exact Or.inr (Or.inl (nI_le (by omega) hj))
theorem pk_le {x y : Int32} {A B : Prop} (a b : Nat) (f : a ≤ b → A) (g : b < a → B) (hx : x = nI a := by rfl) (hy : y = nI b := by rfl) (ha : a < 2 ^ 31 := by omega) (hb : b < 2 ^ 31 := by omega) : (x ≤ y → A) ∧ (¬ x ≤ y → B) := by
  subst hx hy
  rw [nI_leI ha hb]
  exact ⟨f, fun z => g (by omega)⟩
theorem pk_lt {x y : Int32} {A B : Prop} (a b : Nat) (f : a < b → A) (g : b ≤ a → B) (hx : x = nI a := by rfl) (hy : y = nI b := by rfl) (ha : a < 2 ^ 31 := by omega) (hb : b < 2 ^ 31 := by omega) : (x < y → A) ∧ (¬ x < y → B) := by
  subst hx hy
  rw [nI_ltI ha hb]
  exact ⟨f, fun z => g (by omega)⟩
theorem pk_eq {x y : Int32} {A B : Prop} (a b : Nat) (f : a = b → A) (g : a ≠ b → B) (hx : x = nI a := by rfl) (hy : y = nI b := by rfl) (ha : a < 2 ^ 31 := by omega) (hb : b < 2 ^ 31 := by omega) : (x = y → A) ∧ (¬ x = y → B) := by
  subst hx hy
  rw [nI_eq ha hb]
  exact ⟨f, g⟩
/-! the digits of an assignment, the costs that it meets, and the searches over all assignments, as plain functions -/
def wn_dg : Nat → Nat → Nat
  | 0, a => a % 3
  | s + 1, a => wn_dg s (a / 3)
theorem wn_dg_lt : ∀ s a : Nat, wn_dg s a < 3
  | 0, a => Nat.mod_lt a (by decide)
  | s + 1, a => wn_dg_lt s (a / 3)
def wn_V2 (g : Nat → Int32) : Nat → Nat → Int32 → Int32
  | 0, _, s => s
  | r + 1, i, s => if g i = 20 then -6 else wn_V2 g r (i + 1) (s + g i)
def wn_V1 (f g : Nat → Int32) (t : Nat) : Nat → Nat → Int32 → Int32
  | 0, _, s => wn_V2 g t 0 s
  | r + 1, i, s => if f i = 20 then -6 else wn_V1 f g t r (i + 1) (s + f i)
def wn_f (vc : Nat → Int32) (a i : Nat) : Int32 := vc (i * 3 + wn_dg (5 - i) a)
def wn_g (pc tx ty : Nat → Int32) (a i : Nat) : Int32 := pc (i * 9 + wn_dg (5 - (ty i).toNatClampNeg) a * 3 + wn_dg (5 - (tx i).toNatClampNeg) a)
/-- the cost of assignment a, or -6 -/
def wn_c (t : Nat) (vc pc tx ty : Nat → Int32) (a : Nat) : Int32 := wn_V1 (wn_f vc a) (wn_g pc tx ty a) t 6 0 0
/-- a cost as it is kept -/
def wn_k (x : Int32) : Prop := ∃ m : Nat, m ≤ 20 ∧ x = nI m
/-- a variable as it is kept -/
def wn_x (x : Int32) : Prop := ∃ m : Nat, m < 6 ∧ x = nI m
def wn_ok (t : Nat) (vc pc tx ty : Nat → Int32) : Prop :=
  t ≤ 8 ∧ (∀ i, i < 18 → wn_k (vc i)) ∧ (∀ i, i < 72 → wn_k (pc i)) ∧ (∀ i, i < 8 → wn_x (tx i)) ∧ (∀ i, i < 8 → wn_x (ty i))
/-- an answer of a sum: -6, or a small number -/
def wn_v (x : Int32) : Prop := x = -6 ∨ ∃ q : Nat, q ≤ 1000 ∧ x = nI q
theorem wn_n6 {j : Nat} (h : j < 2 ^ 31) : ¬ nI j = -6 := by
  intro e
  have e2 := congrArg Int32.toInt e
  rw [nI_toInt h, show (-6 : Int32).toInt = -6 from by decide] at e2
  omega
theorem wn_v_neg {x : Int32} (h : wn_v x) : x < 0 ↔ x = -6 := by
  rcases h with rfl | ⟨q, hq, rfl⟩
  · exact ⟨fun _ => rfl, fun _ => by decide⟩
  · exact ⟨fun z => absurd z (nI_pos (by omega)), fun z => absurd z (wn_n6 (by omega))⟩
theorem wn_v_le {x : Int32} (h : wn_v x) : ¬ (1000 : Int32) < x := by
  rcases h with rfl | ⟨q, hq, rfl⟩
  · decide
  · exact nI_nlt (a := 1000) hq (by decide)
theorem wn_V2_v (g : Nat → Int32) : ∀ r i m : Nat, m + 20 * r ≤ 1000 → (∀ j, i ≤ j → j < i + r → wn_k (g j)) → wn_v (wn_V2 g r i (nI m)) := by
  intro r
  induction r with
  | zero => exact fun i m hm _ => Or.inr ⟨m, by omega, rfl⟩
  | succ r ih =>
    intro i m hm hg
    rw [wn_V2]
    by_cases z : g i = 20
    · rw [if_pos z]; exact Or.inl rfl
    · rw [if_neg z]
      obtain ⟨q, hq, e⟩ := hg i (by omega) (by omega)
      rw [e, nI_add]
      exact ih (i + 1) (m + q) (by omega) (fun j h1 h2 => hg j (by omega) (by omega))
theorem wn_V1_v (f g : Nat → Int32) (t : Nat) (ht : t ≤ 8) (hg : ∀ j, j < t → wn_k (g j)) : ∀ r i m : Nat, m + 20 * r ≤ 800 → (∀ j, i ≤ j → j < i + r → wn_k (f j)) → wn_v (wn_V1 f g t r i (nI m)) := by
  intro r
  induction r with
  | zero => exact fun i m hm _ => wn_V2_v g t 0 m (by omega) (fun j _ h => hg j (by omega))
  | succ r ih =>
    intro i m hm hf
    rw [wn_V1]
    by_cases z : f i = 20
    · rw [if_pos z]; exact Or.inl rfl
    · rw [if_neg z]
      obtain ⟨q, hq, e⟩ := hf i (by omega) (by omega)
      rw [e, nI_add]
      exact ih (i + 1) (m + q) (by omega) (fun j h1 h2 => hf j (by omega) (by omega))
theorem wn_f_k {t : Nat} {vc pc tx ty : Nat → Int32} (h : wn_ok t vc pc tx ty) (a : Nat) {i : Nat} (hi : i < 6) : wn_k (wn_f vc a i) := by
  have := wn_dg_lt (5 - i) a
  exact h.2.1 _ (by omega)
theorem wn_g_k {t : Nat} {vc pc tx ty : Nat → Int32} (h : wn_ok t vc pc tx ty) (a : Nat) {i : Nat} (hi : i < 8) : wn_k (wn_g pc tx ty a i) := by
  have h1 := wn_dg_lt (5 - (ty i).toNatClampNeg) a
  have h2 := wn_dg_lt (5 - (tx i).toNatClampNeg) a
  exact h.2.2.1 _ (by omega)
theorem wn_c_v {t : Nat} {vc pc tx ty : Nat → Int32} (h : wn_ok t vc pc tx ty) (a : Nat) : wn_v (wn_c t vc pc tx ty a) :=
  wn_V1_v (wn_f vc a) (wn_g pc tx ty a) t h.1 (fun j hj => wn_g_k h a (Nat.lt_of_lt_of_le hj h.1)) 6 0 0 (by decide) (fun j _ hj => wn_f_k h a (by omega))
/-! the first of the least cost -/
def wn_fs (c : Nat → Int32) (i : Nat) : Option Nat → Option Nat
  | none => if c i = -6 then none else some i
  | some j => if c i = -6 then some j else if c j ≤ c i then some j else some i
theorem wn_fs_n6 {c : Nat → Int32} {i : Nat} {o : Option Nat} (z : c i = -6) : wn_fs c i o = o := by
  cases o with
  | none => exact if_pos z
  | some m => exact if_pos z
theorem wn_fs_n {c : Nat → Int32} {i : Nat} (z : ¬ c i = -6) : wn_fs c i none = some i := if_neg z
theorem wn_fs_le {c : Nat → Int32} {i m : Nat} (z : ¬ c i = -6) (y : c m ≤ c i) : wn_fs c i (some m) = some m := (if_neg z).trans (if_pos y)
theorem wn_fs_gt {c : Nat → Int32} {i m : Nat} (z : ¬ c i = -6) (y : ¬ c m ≤ c i) : wn_fs c i (some m) = some i := (if_neg z).trans (if_neg y)
def wn_F (c : Nat → Int32) : Nat → Nat → Option Nat → Option Nat
  | 0, _, o => o
  | r + 1, i, o => wn_F c r (i + 1) (wn_fs c i o)
def wn_o1 : Option Nat → Int32
  | none => -6
  | some j => nI j
def wn_o2 (c : Nat → Int32) : Option Nat → Int32
  | none => -6
  | some j => c j
/-- what is known of the search behind the assignments below i -/
def wn_P (c : Nat → Int32) (i : Nat) (o : Option Nat) : Prop :=
  (o = none → ∀ k, k < i → c k = -6) ∧ (∀ j, o = some j → j < i ∧ ¬ c j = -6 ∧ ∀ k, k < i → ¬ c k = -6 → c j ≤ c k)
theorem wn_P0 (c : Nat → Int32) : wn_P c 0 none := ⟨fun _ k hk => absurd hk (by omega), fun j e => nomatch e⟩
theorem wn_fs_P {c : Nat → Int32} {i : Nat} {o : Option Nat} (h : wn_P c i o) : wn_P c (i + 1) (wn_fs c i o) := by
  by_cases z : c i = -6
  · rw [wn_fs_n6 z]
    refine ⟨fun e k hk => ?_, fun j e => ⟨?_, (h.2 j e).2.1, fun k hk hz => ?_⟩⟩
    · by_cases e2 : k = i
      · rw [e2]; exact z
      · exact h.1 e k (by omega)
    · have := (h.2 j e).1
      omega
    · by_cases e2 : k = i
      · rw [e2] at hz; exact absurd z hz
      · exact (h.2 j e).2.2 k (by omega) hz
  · have hn : wn_fs c i o = some i → (∀ k, k < i → ¬ c k = -6 → c i ≤ c k) → wn_P c (i + 1) (wn_fs c i o) := by
      intro e hl
      rw [e]
      refine ⟨fun e => absurd e (Option.some_ne_none _), fun j e => ?_⟩
      obtain rfl : i = j := Option.some.inj e
      refine ⟨by omega, z, fun k hk hz => ?_⟩
      by_cases e2 : k = i
      · rw [e2]; exact Int32.le_refl _
      · exact hl k (by omega) hz
    cases o with
    | none => exact hn (wn_fs_n z) (fun k hk hz => absurd (h.1 rfl k hk) hz)
    | some m =>
      obtain ⟨hm, zm, hl⟩ := h.2 m rfl
      by_cases y : c m ≤ c i
      · rw [wn_fs_le z y]
        refine ⟨fun e => absurd e (Option.some_ne_none _), fun j e => ?_⟩
        obtain rfl : m = j := Option.some.inj e
        refine ⟨by omega, zm, fun k hk hz => ?_⟩
        by_cases e2 : k = i
        · rw [e2]; exact y
        · exact hl k (by omega) hz
      · refine hn (wn_fs_gt z y) (fun k hk hz => ?_)
        have h3 := hl k hk hz
        rw [Int32.le_iff_toInt_le] at h3 y ⊢
        omega
theorem wn_F_P (c : Nat → Int32) : ∀ (r i : Nat) (o : Option Nat), wn_P c i o → wn_P c (i + r) (wn_F c r i o) := by
  intro r
  induction r with
  | zero => exact fun i o h => h
  | succ r ih =>
    intro i o h
    have e : i + (r + 1) = i + 1 + r := by omega
    rw [e, wn_F]
    exact ih (i + 1) _ (wn_fs_P h)
/-- the first of the least cost, and the least cost -/
def wn_B (c : Nat → Int32) : Option Nat := wn_F c 729 0 none
def wn_L (c : Nat → Int32) : Int32 := wn_o2 c (wn_B c)
theorem wn_B_P (c : Nat → Int32) : wn_P c 729 (wn_B c) := wn_F_P c 729 0 none (wn_P0 c)
theorem wn_L_v {c : Nat → Int32} (hc : ∀ a, wn_v (c a)) : wn_v (wn_L c) := by
  unfold wn_L
  cases wn_B c with
  | none => exact Or.inl rfl
  | some j => exact hc j
/-! the least of those that p picks -/
def wn_ws (c : Nat → Int32) (p : Nat → Bool) (i : Nat) (b : Int32) : Int32 :=
  if p i = true then (if c i = -6 then b else if b = -6 then c i else if b ≤ c i then b else c i) else b
def wn_W (c : Nat → Int32) (p : Nat → Bool) : Nat → Nat → Int32 → Int32
  | 0, _, b => b
  | r + 1, i, b => wn_W c p r (i + 1) (wn_ws c p i b)
theorem wn_ws_v {c : Nat → Int32} {p : Nat → Bool} {i : Nat} {b : Int32} (hc : wn_v (c i)) (hb : wn_v b) : wn_v (wn_ws c p i b) := by
  unfold wn_ws
  split
  · split
    · exact hb
    · split
      · exact hc
      · split
        · exact hb
        · exact hc
  · exact hb
/-! how many p picks, and whether it picks one -/
def wn_N (p : Nat → Bool) : Nat → Nat → Int32 → Int32
  | 0, _, n => n
  | r + 1, i, n => wn_N p r (i + 1) (if p i = true then n + 1 else n)
def wn_A (p : Nat → Bool) : Nat → Nat → Int32
  | 0, _ => 0
  | r + 1, i => if p i = true then 1 else wn_A p r (i + 1)
theorem wn_N_c {p q : Nat → Bool} : ∀ (r i : Nat) (n : Int32), (∀ k, i ≤ k → k < i + r → p k = q k) → wn_N p r i n = wn_N q r i n := by
  intro r
  induction r with
  | zero => exact fun _ _ _ => rfl
  | succ r ih =>
    intro i n h
    rw [wn_N, wn_N, h i (by omega) (by omega)]
    exact ih (i + 1) _ (fun k h1 h2 => h k (by omega) (by omega))
theorem wn_A_c {p q : Nat → Bool} : ∀ (r i : Nat), (∀ k, i ≤ k → k < i + r → p k = q k) → wn_A p r i = wn_A q r i := by
  intro r
  induction r with
  | zero => exact fun _ _ => rfl
  | succ r ih =>
    intro i h
    rw [wn_A, wn_A, h i (by omega) (by omega), ih (i + 1) (fun k h1 h2 => h k (by omega) (by omega))]
/-! the nine costs of a new table -/
def wn_Z (t : Nat) : Nat → Nat → (Nat → Int32) → (Nat → Int32)
  | 0, _, pc => pc
  | r + 1, i, pc => wn_Z t r (i + 1) (upd pc (t * 9 + i) 0)
theorem wn_upd_k {N : Nat} {f : Nat → Int32} {k : Nat} {x : Int32} (h : ∀ i, i < N → wn_k (f i)) (hx : wn_k x) : ∀ i, i < N → wn_k (upd f k x i) := by
  intro i hi
  by_cases e : i = k
  · rw [e, pk_us]; exact hx
  · rw [pk_un e]; exact h i hi
theorem wn_upd_x {N : Nat} {f : Nat → Int32} {k : Nat} {x : Int32} (h : ∀ i, i < N → wn_x (f i)) (hx : wn_x x) : ∀ i, i < N → wn_x (upd f k x i) := by
  intro i hi
  by_cases e : i = k
  · rw [e, pk_us]; exact hx
  · rw [pk_un e]; exact h i hi
theorem wn_Z_k (t : Nat) : ∀ (r i : Nat) (pc : Nat → Int32), (∀ j, j < 72 → wn_k (pc j)) → ∀ j, j < 72 → wn_k (wn_Z t r i pc j) := by
  intro r
  induction r with
  | zero => exact fun _ _ h => h
  | succ r ih => exact fun i pc h => ih (i + 1) _ (wn_upd_k h ⟨0, by decide, rfl⟩)
/-! an argument is a number that fits, or not -/
theorem wn_arg (x : Int32) (n : Nat) (hn : n < 2 ^ 31) : (x < 0 ∨ (¬ x < 0 ∧ nI n ≤ x)) ∨ ∃ j : Nat, j < n ∧ x = nI j := by
  rcases pk_ix x hn with h | h | h
  · exact Or.inl (Or.inl h)
  · by_cases z : x < 0
    · exact Or.inl (Or.inl z)
    · exact Or.inl (Or.inr ⟨z, h⟩)
  · exact Or.inr h
