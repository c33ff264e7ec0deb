theorem pk_us {f : Nat → Int32} {k : Nat} {x : Int32} : upd f k x k = x := if_pos rfl
theorem pk_un {f : Nat → Int32} {k j : Nat} {x : Int32} (h : j ≠ k) : upd f k x j = f j := if_neg h
theorem pk_sub {a b : Nat} (h : b ≤ a) : nI a - nI b = nI (a - b) := by
  obtain ⟨c, rfl⟩ : ∃ c, a = c + b := ⟨a - b, by omega⟩
  rw [← nI_add, Int32.add_sub_cancel, Nat.add_sub_cancel]
theorem pk_m1 (n : Nat) : nI (n + 1) + (-1) = nI n := by
  rw [← nI_1, Int32.add_assoc, show (1 : Int32) + (-1) = 0 from rfl, Int32.add_zero]
theorem pk_mul (a b : Nat) : nI a * nI b = nI (a * b) := (Int32.ofNat_mul a b).symm
theorem pk_div {a d : Nat} (ha : a < 2 ^ 31) (h0 : 0 < d) (hd : d < 2 ^ 31) : nI a / nI d = nI (a / d) := by
  apply Int32.toInt_inj.mp
  rw [lg_idiv_nonneg (by rw [nI_toInt ha]; omega) (by rw [nI_toInt hd]; omega), nI_toInt ha, nI_toInt hd, nI_toInt (Nat.lt_of_le_of_lt (Nat.div_le_self a d) ha)]
  first | rfl | exact (Int.natCast_ediv _ _).symm
theorem pk_rem {a d : Nat} (ha : a < 2 ^ 31) (h0 : 0 < d) (hd : d < 2 ^ 31) : nI a - nI a / nI d * nI d = nI (a % d) := by
  rw [pk_div ha h0 hd, pk_mul, pk_sub (Nat.div_mul_le_self a d)]
  exact congrArg nI (by have := Nat.div_add_mod' a d; omega)
theorem pk_le {x y : Int32} {A B : Prop} (a b : Nat) (f : a ≤ b → A) (g : b < a → B) (hx : x = nI a := by rfl) (hy : y = nI b := by rfl) (ha : a < 2 ^ 31 := by omega) (hb : b < 2 ^ 31 := by omega) : (x ≤ y → A) ∧ (¬ x ≤ y → B) := by
  subst hx hy
  rw [nI_leI ha hb]
  exact ⟨f, fun z => g (by omega)⟩
theorem pk_lt {x y : Int32} {A B : Prop} (a b : Nat) (f : a < b → A) (g : b ≤ a → B) (hx : x = nI a := by rfl) (hy : y = nI b := by rfl) (ha : a < 2 ^ 31 := by omega) (hb : b < 2 ^ 31 := by omega) : (x < y → A) ∧ (¬ x < y → B) := by
  subst hx hy
  rw [nI_ltI ha hb]
  exact ⟨f, fun z => g (by omega)⟩
theorem pk_eq {x y : Int32} {A B : Prop} (a b : Nat) (f : a = b → A) (g : a ≠ b → B) (hx : x = nI a := by rfl) (hy : y = nI b := by rfl) (ha : a < 2 ^ 31 := by omega) (hb : b < 2 ^ 31 := by omega) : (x = y → A) ∧ (¬ x = y → B) := by
  subst hx hy
  rw [nI_eq ha hb]
  exact ⟨f, g⟩
theorem pk_in {x : Int32} (n N : Nat) (h : n < N) (hx : x = nI n := by rfl) (hN : N < 2 ^ 31 := by omega) : vp_in x N := by
  subst hx
  exact vp_in_nI h hN
theorem pk_cl {x : Int32} (n : Nat) (hx : x = nI n := by rfl) (h : n < 2 ^ 31 := by omega) : x.toNatClampNeg = n := by
  subst hx
  exact nI_clamp h
/-! the code of a list of letters -/
def ft_cd (f : Nat → Nat) : Nat → Nat
  | 0 => 0
  | n + 1 => 5 * ft_cd f n + (f n + 1)
theorem ft_cd_0 (f : Nat → Nat) : ft_cd f 0 = 0 := rfl
theorem ft_cd_s (f : Nat → Nat) (n : Nat) : ft_cd f (n + 1) = 5 * ft_cd f n + (f n + 1) := rfl
theorem ft_cd_pos (f : Nat → Nat) (n : Nat) : 0 < ft_cd f (n + 1) := by rw [ft_cd_s]; omega
theorem ft_cd_div {f : Nat → Nat} (hf : ∀ i, f i < 4) (n : Nat) : ft_cd f (n + 1) / 5 = ft_cd f n := by
  have := hf n
  rw [ft_cd_s]; omega
theorem ft_cd_mod {f : Nat → Nat} (hf : ∀ i, f i < 4) (n : Nat) : ft_cd f (n + 1) % 5 = f n + 1 := by
  have := hf n
  rw [ft_cd_s]; omega
theorem ft_cd_pw {f : Nat → Nat} (hf : ∀ i, f i < 4) (n : Nat) : ft_cd f n < 5 ^ n := by
  induction n with
  | zero => exact Nat.one_pos
  | succ n ih =>
    have := hf n
    rw [ft_cd_s, Nat.pow_succ]; omega
theorem ft_cd_lt {f : Nat → Nat} (hf : ∀ i, f i < 4) {n : Nat} (hn : n ≤ 6) : ft_cd f n < 15625 :=
  Nat.lt_of_lt_of_le (ft_cd_pw hf n) (Nat.pow_le_pow_right (n := 5) (by decide) hn)
theorem ft_cd_cg {f g : Nat → Nat} {n : Nat} (h : ∀ i, i < n → f i = g i) : ft_cd f n = ft_cd g n := by
  induction n with
  | zero => rfl
  | succ n ih =>
    rw [ft_cd_s, ft_cd_s, ih (fun i hi => h i (by omega)), h n (by omega)]
theorem ft_cd_mono (f : Nat → Nat) {k n : Nat} (h : k < n) : ft_cd f k < ft_cd f n := by
  induction n with
  | zero => omega
  | succ n ih =>
    rw [ft_cd_s]
    by_cases e : k = n
    · subst e; omega
    · have := ih (by omega); omega
theorem ft_cd_inj {f g : Nat → Nat} (hf : ∀ i, f i < 4) (hg : ∀ i, g i < 4) : ∀ m n : Nat, ft_cd f m = ft_cd g n → m = n ∧ ∀ i, i < m → f i = g i := by
  intro m
  induction m with
  | zero =>
    intro n h
    cases n with
    | zero => exact ⟨rfl, fun i hi => absurd hi (by omega)⟩
    | succ n => have := ft_cd_pos g n; rw [ft_cd_0] at h; omega
  | succ m ih =>
    intro n h
    cases n with
    | zero => have := ft_cd_pos f m; rw [ft_cd_0] at h; omega
    | succ n =>
      have a := hf m
      have b := hg n
      rw [ft_cd_s, ft_cd_s] at h
      obtain ⟨e, k⟩ := ih n (by omega)
      subst e
      refine ⟨rfl, fun i hi => ?_⟩
      by_cases e : i = m
      · subst e; omega
      · exact k i (by omega)
/-- f's first m letters are a beginning of w's n letters -/
def ft_bg (f : Nat → Nat) (m : Nat) (w : Nat → Nat) (n : Nat) : Prop := m ≤ n ∧ ∀ i, i < m → f i = w i
theorem ft_bg_cd {f w : Nat → Nat} {m n : Nat} (h : ft_bg f m w n) : ft_cd w m = ft_cd f m := (ft_cd_cg h.2).symm
theorem ft_cd_bg {f w : Nat → Nat} (hf : ∀ i, f i < 4) (hw : ∀ i, w i < 4) {m n k : Nat} (hk : k ≤ n) (h : ft_cd w k = ft_cd f m) : k = m ∧ ft_bg f m w n := by
  obtain ⟨e, q⟩ := ft_cd_inj hw hf _ _ h
  subst e
  exact ⟨rfl, hk, fun i hi => (q i hi).symm⟩
/-! the place in the dictionary: digits filled up with zeros -/
def ft_pd (f : Nat → Nat) (n i : Nat) : Nat := if i < n then f i + 1 else 0
def ft_P (a : Nat → Nat) : Nat → Nat
  | 0 => 0
  | k + 1 => 5 * ft_P a k + a k
theorem ft_P_s (a : Nat → Nat) (k : Nat) : ft_P a (k + 1) = 5 * ft_P a k + a k := rfl
theorem ft_P_eq {a b : Nat → Nat} {i : Nat} (h : ∀ j, j < i → a j = b j) : ft_P a i = ft_P b i := by
  induction i with
  | zero => rfl
  | succ i ih => rw [ft_P_s, ft_P_s, ih (fun j hj => h j (by omega)), h i (by omega)]
theorem ft_P_lt {a b : Nat → Nat} (ha : ∀ i, a i < 5) {i : Nat} (h : ∀ j, j < i → a j = b j) (hi : a i < b i) (d : Nat) : ft_P a (i + 1 + d) < ft_P b (i + 1 + d) := by
  induction d with
  | zero =>
    show ft_P a (i + 1) < ft_P b (i + 1)
    rw [ft_P_s, ft_P_s, ft_P_eq h]; omega
  | succ d ih =>
    have := ha (i + 1 + d)
    show ft_P a (i + 1 + d + 1) < ft_P b (i + 1 + d + 1)
    rw [ft_P_s, ft_P_s]; omega
theorem ft_pd_lt {f : Nat → Nat} (hf : ∀ i, f i < 4) (n i : Nat) : ft_pd f n i < 5 := by
  have := hf i
  unfold ft_pd
  split <;> omega
theorem ft_pd_cd (f : Nat → Nat) (n : Nat) : ∀ k, k ≤ n → ft_P (ft_pd f n) k = ft_cd f k := by
  intro k
  induction k with
  | zero => intro _; rfl
  | succ k ih =>
    intro h
    rw [ft_P_s, ft_cd_s, ih (by omega)]
    unfold ft_pd
    rw [if_pos (by omega)]
theorem ft_pd_s (f : Nat → Nat) {n k : Nat} (h : n ≤ k) : ft_P (ft_pd f n) (k + 1) = ft_P (ft_pd f n) k * 5 := by
  rw [ft_P_s]
  have : ft_pd f n k = 0 := if_neg (by omega)
  omega
theorem ft_P_pw {a : Nat → Nat} (ha : ∀ i, a i < 5) (n : Nat) : ft_P a n < 5 ^ n := by
  induction n with
  | zero => exact Nat.one_pos
  | succ n ih =>
    have := ha n
    rw [ft_P_s, Nat.pow_succ]; omega
theorem ft_P_low {f : Nat → Nat} (n : Nat) (k : Nat) : 5 ^ k ≤ ft_P (ft_pd f (n + 1)) (k + 1) := by
  induction k with
  | zero =>
    rw [ft_P_s]
    have : ft_pd f (n + 1) 0 = f 0 + 1 := if_pos (by omega)
    omega
  | succ k ih => rw [ft_P_s, Nat.pow_succ]; omega
/-- the place of a list -/
def ft_pl (f : Nat → Nat) (n : Nat) : Nat := ft_P (ft_pd f n) 6
theorem ft_pl_lt {f : Nat → Nat} (hf : ∀ i, f i < 4) (n : Nat) : ft_pl f n < 15625 := ft_P_pw (ft_pd_lt hf n) 6
theorem ft_P_lt6 {a b : Nat → Nat} (ha : ∀ i, a i < 5) {i : Nat} (h6 : i < 6) (h : ∀ j, j < i → a j = b j) (hi : a i < b i) : ft_P a 6 < ft_P b 6 := by
  have := ft_P_lt ha h hi (5 - i)
  rw [show i + 1 + (5 - i) = 6 by omega] at this
  exact this
theorem ft_pl_dif {f g : Nat → Nat} (hf : ∀ i, f i < 4) (hg : ∀ i, g i < 4) {m n i : Nat} (hm : m ≤ 6) (hi : i < m) (hj : i < n) (h : ∀ j, j < i → f j = g j) (hd : f i ≠ g i) : ft_pl f m < ft_pl g n ↔ f i < g i := by
  have p : ∀ j, j < i → ft_pd f m j = ft_pd g n j := fun j q => by
    unfold ft_pd
    rw [if_pos (by omega), if_pos (by omega), h j q]
  have ef : ft_pd f m i = f i + 1 := if_pos hi
  have eg : ft_pd g n i = g i + 1 := if_pos hj
  constructor
  · intro q
    by_cases z : f i < g i
    · exact z
    · have := ft_P_lt6 (ft_pd_lt hg n) (i := i) (by omega) (fun j q => (p j q).symm) (by omega : ft_pd g n i < ft_pd f m i)
      unfold ft_pl at q
      omega
  · intro q
    exact ft_P_lt6 (ft_pd_lt hf m) (i := i) (by omega) p (by omega)
theorem ft_pl_end {f g : Nat → Nat} (hf : ∀ i, f i < 4) (hg : ∀ i, g i < 4) {m n i : Nat} (hm : m ≤ 6) (hn : n ≤ 6) (h : ∀ j, j < i → f j = g j) (hi : i = m ∧ i ≤ n ∨ i = n ∧ i ≤ m) : ft_pl f m < ft_pl g n ↔ m < n := by
  have p : ∀ j, j < i → ft_pd f m j = ft_pd g n j := fun j q => by
    unfold ft_pd
    rw [if_pos (by omega), if_pos (by omega), h j q]
  constructor
  · intro q
    by_cases z : m < n
    · exact z
    · by_cases e : m = n
      · subst e
        have : ft_pl f m = ft_pl g m := by
          unfold ft_pl
          refine ft_P_eq fun j _ => ?_
          unfold ft_pd
          by_cases a : j < m
          · rw [if_pos a, if_pos a, h j (by omega)]
          · rw [if_neg a, if_neg a]
        omega
      · have ef : ft_pd f m i = f i + 1 := if_pos (by omega)
        have eg : ft_pd g n i = 0 := if_neg (by omega)
        have := ft_P_lt6 (ft_pd_lt hg n) (i := i) (by omega) (fun j q => (p j q).symm) (by omega : ft_pd g n i < ft_pd f m i)
        unfold ft_pl at q
        omega
  · intro q
    have ef : ft_pd f m i = 0 := if_neg (by omega)
    have eg : ft_pd g n i = g i + 1 := if_pos (by omega)
    exact ft_P_lt6 (ft_pd_lt hf m) (i := i) (by omega) p (by omega)
