section
theorem pk_us {f : Nat → Int32} {k : Nat} {x : Int32} : upd f k x k = x := if_pos rfl
theorem pk_un {f : Nat → Int32} {k j : Nat} {x : Int32} (h : j ≠ k) : upd f k x j = f j := if_neg h
theorem pk_sub {a b : Nat} (h : b ≤ a) : nI a - nI b = nI (a - b) := by
  obtain ⟨c, rfl⟩ : ∃ c, a = c + b := ⟨a - b, by omega⟩
  rw [← nI_add, Int32.add_sub_cancel, Nat.add_sub_cancel]
theorem pk_m1 (n : Nat) : nI (n + 1) + (-1) = nI n := by
  rw [← nI_1, Int32.add_assoc, show (1 : Int32) + (-1) = 0 from rfl, Int32.add_zero]
theorem pk_mul (a b : Nat) : nI a * nI b = nI (a * b) := (Int32.ofNat_mul a b).symm
theorem pk_div {a d : Nat} (ha : a < 2 ^ 31) (h0 : 0 < d) (hd : d < 2 ^ 31) : nI a / nI d = nI (a / d) := by
  apply Int32.toInt_inj.mp
  rw [lg_idiv_nonneg (by rw [nI_toInt ha]; omega) (by rw [nI_toInt hd]; omega), nI_toInt ha, nI_toInt hd, nI_toInt (Nat.lt_of_le_of_lt (Nat.div_le_self a d) ha)]
  first | rfl | exact (Int.natCast_ediv _ _).symm
theorem pk_rem {a d : Nat} (ha : a < 2 ^ 31) (h0 : 0 < d) (hd : d < 2 ^ 31) : nI a - nI a / nI d * nI d = nI (a % d) := by
  rw [pk_div ha h0 hd, pk_mul, pk_sub (Nat.div_mul_le_self a d)]
  exact congrArg nI (by have := Nat.div_add_mod' a d; omega)
theorem pk_le {x y : Int32} {A B : Prop} (a b : Nat) (f : a ≤ b → A) (g : b < a → B) (hx : x = nI a := by rfl) (hy : y = nI b := by rfl) (ha : a < 2 ^ 31 := by omega) (hb : b < 2 ^ 31 := by omega) : (x ≤ y → A) ∧ (¬ x ≤ y → B) := by
  subst hx hy
  rw [nI_leI ha hb]
  exact ⟨f, fun z => g (by omega)⟩
theorem pk_lt {x y : Int32} {A B : Prop} (a b : Nat) (f : a < b → A) (g : b ≤ a → B) (hx : x = nI a := by rfl) (hy : y = nI b := by rfl) (ha : a < 2 ^ 31 := by omega) (hb : b < 2 ^ 31 := by omega) : (x < y → A) ∧ (¬ x < y → B) := by
  subst hx hy
  rw [nI_ltI ha hb]
  exact ⟨f, fun z => g (by omega)⟩
theorem pk_eq {x y : Int32} {A B : Prop} (a b : Nat) (f : a = b → A) (g : a ≠ b → B) (hx : x = nI a := by rfl) (hy : y = nI b := by rfl) (ha : a < 2 ^ 31 := by omega) (hb : b < 2 ^ 31 := by omega) : (x = y → A) ∧ (¬ x = y → B) := by
  subst hx hy
  rw [nI_eq ha hb]
  exact ⟨f, g⟩
theorem pk_in {x : Int32} (n N : Nat) (h : n < N) (hx : x = nI n := by rfl) (hN : N < 2 ^ 31 := by omega) : vp_in x N := by
  subst hx
  exact vp_in_nI h hN
theorem pk_cl {x : Int32} (n : Nat) (hx : x = nI n := by rfl) (h : n < 2 ^ 31 := by omega) : x.toNatClampNeg = n := by
  subst hx
  exact nI_clamp h
/-! the code of a list of letters -/
def ft_cd (f : Nat → Nat) : Nat → Nat
  | 0 => 0
  | n + 1 => 5 * ft_cd f n + (f n + 1)
theorem ft_cd_0 (f : Nat → Nat) : ft_cd f 0 = 0 := rfl
theorem ft_cd_s (f : Nat → Nat) (n : Nat) : ft_cd f (n + 1) = 5 * ft_cd f n + (f n + 1) := rfl
theorem ft_cd_pos (f : Nat → Nat) (n : Nat) : 0 < ft_cd f (n + 1) := by rw [ft_cd_s]; omega
theorem ft_cd_div {f : Nat → Nat} (hf : ∀ i, f i < 4) (n : Nat) : ft_cd f (n + 1) / 5 = ft_cd f n := by
  have := hf n
  rw [ft_cd_s]; omega
theorem ft_cd_mod {f : Nat → Nat} (hf : ∀ i, f i < 4) (n : Nat) : ft_cd f (n + 1) % 5 = f n + 1 := by
  have := hf n
  rw [ft_cd_s]; omega
theorem ft_cd_pw {f : Nat → Nat} (hf : ∀ i, f i < 4) (n : Nat) : ft_cd f n < 5 ^ n := by
  induction n with
  | zero => exact Nat.one_pos
  | succ n ih =>
    have := hf n
    rw [ft_cd_s, Nat.pow_succ]; omega
theorem ft_cd_lt {f : Nat → Nat} (hf : ∀ i, f i < 4) {n : Nat} (hn : n ≤ 6) : ft_cd f n < 15625 :=
  Nat.lt_of_lt_of_le (ft_cd_pw hf n) (Nat.pow_le_pow_right (n := 5) (by decide) hn)
theorem ft_cd_cg {f g : Nat → Nat} {n : Nat} (h : ∀ i, i < n → f i = g i) : ft_cd f n = ft_cd g n := by
  induction n with
  | zero => rfl
  | succ n ih =>
    rw [ft_cd_s, ft_cd_s, ih (fun i hi => h i (by omega)), h n (by omega)]
theorem ft_cd_mono (f : Nat → Nat) {k n : Nat} (h : k < n) : ft_cd f k < ft_cd f n := by
  induction n with
  | zero => omega
  | succ n ih =>
    rw [ft_cd_s]
    by_cases e : k = n
    · subst e; omega
    · have := ih (by omega); omega
theorem ft_cd_inj {f g : Nat → Nat} (hf : ∀ i, f i < 4) (hg : ∀ i, g i < 4) : ∀ m n : Nat, ft_cd f m = ft_cd g n → m = n ∧ ∀ i, i < m → f i = g i := by
  intro m
  induction m with
  | zero =>
    intro n h
    cases n with
    | zero => exact ⟨rfl, fun i hi => absurd hi (by omega)⟩
    | succ n => have := ft_cd_pos g n; rw [ft_cd_0] at h; omega
  | succ m ih =>
    intro n h
    cases n with
    | zero => have := ft_cd_pos f m; rw [ft_cd_0] at h; omega
    | succ n =>
      have a := hf m
      have b := hg n
      rw [ft_cd_s, ft_cd_s] at h
      obtain ⟨e, k⟩ := ih n (by omega)
      subst e
      refine ⟨rfl, fun i hi => ?_⟩
      by_cases e : i = m
      · subst e; omega
      · exact k i (by omega)
/-- f's first m letters are a beginning of w's n letters -/
def ft_bg (f : Nat → Nat) (m : Nat) (w : Nat → Nat) (n : Nat) : Prop := m ≤ n ∧ ∀ i, i < m → f i = w i
theorem ft_bg_cd {f w : Nat → Nat} {m n : Nat} (h : ft_bg f m w n) : ft_cd w m = ft_cd f m := (ft_cd_cg h.2).symm
theorem ft_cd_bg {f w : Nat → Nat} (hf : ∀ i, f i < 4) (hw : ∀ i, w i < 4) {m n k : Nat} (hk : k ≤ n) (h : ft_cd w k = ft_cd f m) : k = m ∧ ft_bg f m w n := by
  obtain ⟨e, q⟩ := ft_cd_inj hw hf _ _ h
  subst e
  exact ⟨rfl, hk, fun i hi => (q i hi).symm⟩
/-! the place in the dictionary: digits filled up with zeros -/
def ft_pd (f : Nat → Nat) (n i : Nat) : Nat := if i < n then f i + 1 else 0
def ft_P (a : Nat → Nat) : Nat → Nat
  | 0 => 0
  | k + 1 => 5 * ft_P a k + a k
theorem ft_P_s (a : Nat → Nat) (k : Nat) : ft_P a (k + 1) = 5 * ft_P a k + a k := rfl
theorem ft_P_eq {a b : Nat → Nat} {i : Nat} (h : ∀ j, j < i → a j = b j) : ft_P a i = ft_P b i := by
  induction i with
  | zero => rfl
  | succ i ih => rw [ft_P_s, ft_P_s, ih (fun j hj => h j (by omega)), h i (by omega)]
theorem ft_P_lt {a b : Nat → Nat} (ha : ∀ i, a i < 5) {i : Nat} (h : ∀ j, j < i → a j = b j) (hi : a i < b i) (d : Nat) : ft_P a (i + 1 + d) < ft_P b (i + 1 + d) := by
  induction d with
  | zero =>
    show ft_P a (i + 1) < ft_P b (i + 1)
    rw [ft_P_s, ft_P_s, ft_P_eq h]; omega
  | succ d ih =>
    have := ha (i + 1 + d)
    show ft_P a (i + 1 + d + 1) < ft_P b (i + 1 + d + 1)
    rw [ft_P_s, ft_P_s]; omega
theorem ft_pd_lt {f : Nat → Nat} (hf : ∀ i, f i < 4) (n i : Nat) : ft_pd f n i < 5 := by
  have := hf i
  unfold ft_pd
  split <;> omega
theorem ft_pd_cd (f : Nat → Nat) (n : Nat) : ∀ k, k ≤ n → ft_P (ft_pd f n) k = ft_cd f k := by
  intro k
  induction k with
  | zero => intro _; rfl
  | succ k ih =>
    intro h
    rw [ft_P_s, ft_cd_s, ih (by omega)]
    unfold ft_pd
    rw [if_pos (by omega)]
theorem ft_pd_s (f : Nat → Nat) {n k : Nat} (h : n ≤ k) : ft_P (ft_pd f n) (k + 1) = ft_P (ft_pd f n) k * 5 := by
  rw [ft_P_s]
  have : ft_pd f n k = 0 := if_neg (by omega)
  omega
theorem ft_P_pw {a : Nat → Nat} (ha : ∀ i, a i < 5) (n : Nat) : ft_P a n < 5 ^ n := by
  induction n with
  | zero => exact Nat.one_pos
  | succ n ih =>
    have := ha n
    rw [ft_P_s, Nat.pow_succ]; omega
theorem ft_P_low {f : Nat → Nat} (n : Nat) (k : Nat) : 5 ^ k ≤ ft_P (ft_pd f (n + 1)) (k + 1) := by
  induction k with
  | zero =>
    rw [ft_P_s]
    have : ft_pd f (n + 1) 0 = f 0 + 1 := if_pos (by omega)
    omega
  | succ k ih => rw [ft_P_s, Nat.pow_succ]; omega
/-- the place of a list -/
def ft_pl (f : Nat → Nat) (n : Nat) : Nat := ft_P (ft_pd f n) 6
theorem ft_pl_lt {f : Nat → Nat} (hf : ∀ i, f i < 4) (n : Nat) : ft_pl f n < 15625 := ft_P_pw (ft_pd_lt hf n) 6
theorem ft_P_lt6 {a b : Nat → Nat} (ha : ∀ i, a i < 5) {i : Nat} (h6 : i < 6) (h : ∀ j, j < i → a j = b j) (hi : a i < b i) : ft_P a 6 < ft_P b 6 := by
  have := ft_P_lt ha h hi (5 - i)
  rw [show i + 1 + (5 - i) = 6 by omega] at this
  exact this
theorem ft_pl_dif {f g : Nat → Nat} (hf : ∀ i, f i < 4) (hg : ∀ i, g i < 4) {m n i : Nat} (hm : m ≤ 6) (hi : i < m) (hj : i < n) (h : ∀ j, j < i → f j = g j) (hd : f i ≠ g i) : ft_pl f m < ft_pl g n ↔ f i < g i := by
  have p : ∀ j, j < i → ft_pd f m j = ft_pd g n j := fun j q => by
    unfold ft_pd
    rw [if_pos (by omega), if_pos (by omega), h j q]
  have ef : ft_pd f m i = f i + 1 := if_pos hi
  have eg : ft_pd g n i = g i + 1 := if_pos hj
  constructor
  · intro q
    by_cases z : f i < g i
    · exact z
    · have := ft_P_lt6 (ft_pd_lt hg n) (i := i) (by omega) (fun j q => (p j q).symm) (by omega : ft_pd g n i < ft_pd f m i)
      unfold ft_pl at q
      omega
  · intro q
    exact ft_P_lt6 (ft_pd_lt hf m) (i := i) (by omega) p (by omega)
theorem ft_pl_end {f g : Nat → Nat} (hf : ∀ i, f i < 4) (hg : ∀ i, g i < 4) {m n i : Nat} (hm : m ≤ 6) (hn : n ≤ 6) (h : ∀ j, j < i → f j = g j) (hi : i = m ∧ i ≤ n ∨ i = n ∧ i ≤ m) : ft_pl f m < ft_pl g n ↔ m < n := by
  have p : ∀ j, j < i → ft_pd f m j = ft_pd g n j := fun j q => by
    unfold ft_pd
    rw [if_pos (by omega), if_pos (by omega), h j q]
  constructor
  · intro q
    by_cases z : m < n
    · exact z
    · by_cases e : m = n
      · subst e
        have : ft_pl f m = ft_pl g m := by
          unfold ft_pl
          refine ft_P_eq fun j _ => ?_
          unfold ft_pd
          by_cases a : j < m
          · rw [if_pos a, if_pos a, h j (by omega)]
          · rw [if_neg a, if_neg a]
        omega
      · have ef : ft_pd f m i = f i + 1 := if_pos (by omega)
        have eg : ft_pd g n i = 0 := if_neg (by omega)
        have := ft_P_lt6 (ft_pd_lt hg n) (i := i) (by omega) (fun j q => (p j q).symm) (by omega : ft_pd g n i < ft_pd f m i)
        unfold ft_pl at q
        omega
  · intro q
    have ef : ft_pd f m i = 0 := if_neg (by omega)
    have eg : ft_pd g n i = g i + 1 := if_pos (by omega)
    exact ft_P_lt6 (ft_pd_lt hf m) (i := i) (by omega) p (by omega)
end
section
/-! the distance of two lists, from their heads; z is what a letter of y costs when x has ended -/
def ft_ne (a b : Nat) : Nat := if a = b then 0 else 1
def ft_ex (p : List Nat → Nat) (b z : Nat) : List Nat → Nat
  | [] => z
  | a :: x => min (p x + ft_ne a b) (min (ft_ex p b z x) (p (a :: x)) + 1)
def ft_rd (z : Nat) : List Nat → List Nat → Nat
  | [] => fun x => x.length
  | b :: y => ft_ex (ft_rd z y) b ((y.length + 1) * z)
theorem ft_rd_0 (z : Nat) (x : List Nat) : ft_rd z [] x = x.length := rfl
theorem ft_rd_n (z : Nat) (y : List Nat) : ft_rd z y [] = y.length * z := by
  cases y with
  | nil => exact (Nat.zero_mul z).symm
  | cons b y => rfl
theorem ft_rd_s (z b : Nat) (y : List Nat) (a : Nat) (x : List Nat) : ft_rd z (b :: y) (a :: x) = min (ft_rd z y x + ft_ne a b) (min (ft_rd z (b :: y) x) (ft_rd z y (a :: x)) + 1) := rfl
theorem ft_ne_le (a b : Nat) : ft_ne a b ≤ 1 := by unfold ft_ne; split <;> omega
theorem ft_ne_c (a b : Nat) : ft_ne a b = ft_ne b a := by
  unfold ft_ne
  by_cases h : a = b
  · rw [if_pos h, if_pos h.symm]
  · rw [if_neg h, if_neg (fun e => h e.symm)]
theorem ft_rd_ub {z : Nat} (hz : z ≤ 1) : ∀ y x : List Nat, ft_rd z y x ≤ y.length + x.length := by
  intro y
  induction y with
  | nil => intro x; rw [ft_rd_0]; omega
  | cons b y ihy =>
    intro x
    cases x with
    | nil =>
      rw [ft_rd_n]
      have := Nat.mul_le_mul_left (b :: y).length hz
      omega
    | cons a x =>
      have h := ihy x
      have n := ft_ne_le a b
      rw [ft_rd_s, List.length_cons, List.length_cons]
      omega
/-- one letter of x more costs at most one -/
theorem ft_A1 (z : Nat) (y : List Nat) (a : Nat) (x : List Nat) : ft_rd z y (a :: x) ≤ ft_rd z y x + 1 := by
  cases y with
  | nil => rw [ft_rd_0, ft_rd_0, List.length_cons]; omega
  | cons b y => rw [ft_rd_s]; omega
theorem ft_A2 (b : Nat) (y x : List Nat) : ft_rd 1 (b :: y) x ≤ ft_rd 1 y x + 1 := by
  cases x with
  | nil => rw [ft_rd_n, ft_rd_n, List.length_cons]; omega
  | cons a x => rw [ft_rd_s]; omega
theorem ft_A3 (z b : Nat) (y : List Nat) (a : Nat) (x : List Nat) : ft_rd z (b :: y) (a :: x) ≤ ft_rd z y x + ft_ne a b := by
  rw [ft_rd_s]; omega
theorem ft_glue (y2 x2 : List Nat) : ∀ y1 x1 : List Nat, ft_rd 1 (y1 ++ y2) (x1 ++ x2) ≤ ft_rd 1 y1 x1 + ft_rd 1 y2 x2 := by
  intro y1
  induction y1 with
  | nil =>
    intro x1
    induction x1 with
    | nil => show ft_rd 1 y2 x2 ≤ _; omega
    | cons a x1 ih =>
      have h := ft_A1 1 y2 a (x1 ++ x2)
      rw [ft_rd_0, List.length_cons]
      rw [ft_rd_0] at ih
      show ft_rd 1 y2 (a :: (x1 ++ x2)) ≤ _
      have ih' : ft_rd 1 y2 (x1 ++ x2) ≤ x1.length + ft_rd 1 y2 x2 := ih
      omega
  | cons b y1 ihy =>
    intro x1
    induction x1 with
    | nil =>
      have h := ft_A2 b (y1 ++ y2) x2
      have i : ft_rd 1 (y1 ++ y2) x2 ≤ ft_rd 1 y1 [] + ft_rd 1 y2 x2 := ihy []
      rw [ft_rd_n] at i ⊢
      show ft_rd 1 (b :: (y1 ++ y2)) x2 ≤ _
      rw [List.length_cons]
      omega
    | cons a x1 ih =>
      have i1 := ihy x1
      have i2 : ft_rd 1 (y1 ++ y2) (a :: (x1 ++ x2)) ≤ ft_rd 1 y1 (a :: x1) + ft_rd 1 y2 x2 := ihy (a :: x1)
      have i3 : ft_rd 1 (b :: (y1 ++ y2)) (x1 ++ x2) ≤ ft_rd 1 (b :: y1) x1 + ft_rd 1 y2 x2 := ih
      show ft_rd 1 (b :: (y1 ++ y2)) (a :: (x1 ++ x2)) ≤ _
      rw [ft_rd_s, ft_rd_s]
      omega
theorem ft_one (b a : Nat) : ft_rd 1 [b] [a] = ft_ne a b := by
  have := ft_ne_le a b
  rw [ft_rd_s]
  show min (0 + ft_ne a b) (min 1 1 + 1) = _
  omega
theorem ft_low (b a : Nat) : ∀ y x : List Nat, min (ft_rd 1 y x + ft_ne a b) (min (ft_rd 1 (y ++ [b]) x) (ft_rd 1 y (x ++ [a])) + 1) ≤ ft_rd 1 (y ++ [b]) (x ++ [a]) := by
  have nb := ft_ne_le a b
  intro y
  induction y with
  | nil =>
    intro x
    induction x with
    | nil =>
      have := ft_one b a
      have e : ft_rd 1 ([] ++ [b]) ([] ++ [a]) = ft_rd 1 [b] [a] := rfl
      rw [e, this, ft_rd_0, List.length_nil]
      omega
    | cons c x ih =>
      have a1 : ft_rd 1 [b] (c :: x) ≤ ft_rd 1 [] x + ft_ne c b := ft_A3 1 b [] c x
      have a2 := ft_A1 1 [b] c x
      have e : ft_rd 1 ([] ++ [b]) (c :: x ++ [a]) = min (ft_rd 1 [] (x ++ [a]) + ft_ne c b) (min (ft_rd 1 [b] (x ++ [a])) (ft_rd 1 [] (c :: (x ++ [a]))) + 1) := rfl
      have f : ft_rd 1 ([] ++ [b]) (x ++ [a]) = ft_rd 1 [b] (x ++ [a]) := rfl
      have f2 : ft_rd 1 ([] ++ [b]) x = ft_rd 1 [b] x := rfl
      have f3 : ft_rd 1 ([] ++ [b]) (c :: x) = ft_rd 1 [b] (c :: x) := rfl
      have f4 : ft_rd 1 [] (c :: x ++ [a]) = ft_rd 1 [] (c :: (x ++ [a])) := rfl
      rw [f, f2] at ih
      rw [e, f3, f4]
      simp only [ft_rd_0, List.length_cons, List.length_append, List.length_nil] at *
      omega
  | cons e y ihy =>
    intro x
    induction x with
    | nil =>
      have i1 := ihy []
      have a1 : ft_rd 1 (e :: y) [a] ≤ ft_rd 1 y [] + ft_ne a e := ft_A3 1 e y a []
      have a2 := ft_A2 e y [a]
      have e1 : ft_rd 1 (e :: y ++ [b]) ([] ++ [a]) = min (ft_rd 1 (y ++ [b]) [] + ft_ne a e) (min (ft_rd 1 (e :: (y ++ [b])) []) (ft_rd 1 (y ++ [b]) [a]) + 1) := rfl
      have f : ft_rd 1 (y ++ [b]) ([] ++ [a]) = ft_rd 1 (y ++ [b]) [a] := rfl
      have f2 : ft_rd 1 y ([] ++ [a]) = ft_rd 1 y [a] := rfl
      have f3 : ft_rd 1 (e :: y) ([] ++ [a]) = ft_rd 1 (e :: y) [a] := rfl
      have f4 : ft_rd 1 (e :: y ++ [b]) [] = ft_rd 1 (e :: (y ++ [b])) [] := rfl
      rw [f, f2] at i1
      rw [e1, f3, f4]
      simp only [ft_rd_n, List.length_cons, List.length_append, List.length_nil] at *
      omega
    | cons c x ihx =>
      have i1 := ihy x
      have i2 := ihy (c :: x)
      have a1 := ft_A3 1 e y c x
      have a2 := ft_A1 1 (e :: y) c x
      have a3 := ft_A2 e y (c :: x)
      have a4 := ft_A3 1 e (y ++ [b]) c x
      have a5 := ft_A1 1 (e :: (y ++ [b])) c x
      have a6 := ft_A2 e (y ++ [b]) (c :: x)
      have a7 := ft_A3 1 e y c (x ++ [a])
      have a8 := ft_A1 1 (e :: y) c (x ++ [a])
      have a9 := ft_A2 e y (c :: (x ++ [a]))
      have e1 : ft_rd 1 (e :: y ++ [b]) (c :: x ++ [a]) = min (ft_rd 1 (y ++ [b]) (x ++ [a]) + ft_ne c e) (min (ft_rd 1 (e :: (y ++ [b])) (x ++ [a])) (ft_rd 1 (y ++ [b]) (c :: (x ++ [a]))) + 1) := rfl
      have f1 : c :: x ++ [a] = c :: (x ++ [a]) := rfl
      have f2 : e :: y ++ [b] = e :: (y ++ [b]) := rfl
      rw [e1]
      rw [f1] at i2 ⊢
      rw [f2] at ihx ⊢
      omega
theorem ft_end (b a : Nat) (y x : List Nat) : ft_rd 1 (y ++ [b]) (x ++ [a]) = min (ft_rd 1 y x + ft_ne a b) (min (ft_rd 1 (y ++ [b]) x) (ft_rd 1 y (x ++ [a])) + 1) := by
  have h := ft_low b a y x
  have g1 := ft_glue [b] [a] y x
  have g2 : ft_rd 1 (y ++ [b]) (x ++ [a]) ≤ ft_rd 1 (y ++ [b]) x + 1 := by
    have := ft_glue [] [a] (y ++ [b]) x
    rw [List.append_nil] at this
    exact this
  have g3 : ft_rd 1 (y ++ [b]) (x ++ [a]) ≤ ft_rd 1 y (x ++ [a]) + 1 := by
    have := ft_glue [b] [] y (x ++ [a])
    rw [List.append_nil] at this
    exact this
  rw [ft_one] at g1
  omega
theorem ft_rev : ∀ y x : List Nat, ft_rd 1 y.reverse x.reverse = ft_rd 1 y x := by
  intro y
  induction y with
  | nil => intro x; rw [List.reverse_nil, ft_rd_0, ft_rd_0, List.length_reverse]
  | cons b y ihy =>
    intro x
    induction x with
    | nil => rw [List.reverse_nil, ft_rd_n, ft_rd_n, List.length_reverse]
    | cons a x ihx =>
      have i1 := ihy x
      have i2 := ihy (a :: x)
      rw [List.reverse_cons] at ihx i2
      rw [List.reverse_cons, List.reverse_cons, ft_end, ft_rd_s, i1, i2, ihx]
/-! with a free rest -/
theorem ft_R0 : ∀ (y x : List Nat), ft_rd 0 y x ≤ x.length := by
  intro y x
  induction x with
  | nil => rw [ft_rd_n]; omega
  | cons a x ih => have := ft_A1 0 y a x; rw [List.length_cons]; omega
theorem ft_R1 (z : List Nat) : ∀ y x : List Nat, ft_rd 0 (y ++ z) x ≤ ft_rd 1 y x := by
  intro y
  induction y with
  | nil => intro x; rw [ft_rd_0]; exact ft_R0 _ x
  | cons b y ihy =>
    intro x
    induction x with
    | nil => rw [ft_rd_n]; omega
    | cons a x ihx =>
      have i1 := ihy x
      have i2 := ihy (a :: x)
      have f2 : b :: y ++ z = b :: (y ++ z) := rfl
      rw [f2] at ihx ⊢
      rw [ft_rd_s, ft_rd_s]
      omega
theorem ft_R2 : ∀ y x : List Nat, ∃ j, j ≤ y.length ∧ ft_rd 1 (y.take j) x ≤ ft_rd 0 y x := by
  intro y
  induction y with
  | nil => intro x; exact ⟨0, Nat.le_refl _, Nat.le_refl _⟩
  | cons b y ihy =>
    intro x
    induction x with
    | nil => exact ⟨0, Nat.zero_le _, by rw [List.take_zero, ft_rd_0]; exact Nat.zero_le _⟩
    | cons a x ihx =>
      have e := ft_rd_s 0 b y a x
      obtain ⟨j1, h1, k1⟩ := ihy x
      obtain ⟨j2, h2, k2⟩ := ihy (a :: x)
      obtain ⟨j3, h3, k3⟩ := ihx
      have q1 := ft_A3 1 b (y.take j1) a x
      have q2 := ft_A2 b (y.take j2) (a :: x)
      have q3 := ft_A1 1 ((b :: y).take j3) a x
      by_cases c1 : ft_rd 0 (b :: y) (a :: x) = ft_rd 0 y x + ft_ne a b
      · exact ⟨j1 + 1, by rw [List.length_cons]; omega, by rw [List.take_succ_cons]; omega⟩
      · by_cases c2 : ft_rd 0 (b :: y) (a :: x) = ft_rd 0 (b :: y) x + 1
        · exact ⟨j3, h3, by omega⟩
        · exact ⟨j2 + 1, by rw [List.length_cons]; omega, by rw [List.take_succ_cons]; omega⟩
/-! lists of a function's values -/
def ft_rl (f : Nat → Nat) : Nat → List Nat
  | 0 => []
  | n + 1 => f n :: ft_rl f n
theorem ft_rl_s (f : Nat → Nat) (n : Nat) : ft_rl f (n + 1) = f n :: ft_rl f n := rfl
theorem ft_rl_len (f : Nat → Nat) (n : Nat) : (ft_rl f n).length = n := by
  induction n with
  | zero => rfl
  | succ n ih => rw [ft_rl_s, List.length_cons, ih]
theorem ft_rl_eq (f : Nat → Nat) (n : Nat) : ft_rl f n = ((List.range n).map f).reverse := by
  induction n with
  | zero => rfl
  | succ n ih => rw [ft_rl_s, ih, List.range_succ, List.map_append, List.reverse_append]; rfl
theorem ft_rl_rev (f : Nat → Nat) (n : Nat) : ft_rl (fun i => f (n - 1 - i)) n = (ft_rl f n).reverse := by
  rw [ft_rl_eq, ft_rl_eq, List.reverse_reverse]
  apply List.ext_getElem
  · simp
  · intro i h1 h2
    simp at h1 h2 ⊢
    congr 1
    omega
theorem ft_take (f : Nat → Nat) {n j : Nat} (h : j ≤ n) : (ft_rl f n).reverse.take j = (ft_rl f j).reverse := by
  rw [ft_rl_eq, ft_rl_eq, List.reverse_reverse, List.reverse_reverse, ← List.map_take, List.take_range, Nat.min_eq_left h]
/-- the component's table: t letters of w, j of q, each from the end -/
def ft_R (z : Nat) (q : Nat → Nat) (m : Nat) (w : Nat → Nat) (n t j : Nat) : Nat := ft_rd z (ft_rl (fun i => w (n - 1 - i)) t) (ft_rl (fun i => q (m - 1 - i)) j)
theorem ft_R_0 (z : Nat) (q : Nat → Nat) (m : Nat) (w : Nat → Nat) (n j : Nat) : ft_R z q m w n 0 j = j := ft_rl_len _ j
theorem ft_R_n (z : Nat) (q : Nat → Nat) (m : Nat) (w : Nat → Nat) (n t : Nat) : ft_R z q m w n t 0 = t * z := by
  unfold ft_R
  show ft_rd z _ [] = _
  rw [ft_rd_n, ft_rl_len]
theorem ft_R_s (z : Nat) (q : Nat → Nat) (m : Nat) (w : Nat → Nat) (n t j : Nat) : ft_R z q m w n (t + 1) (j + 1) = min (ft_R z q m w n t j + ft_ne (q (m - 1 - j)) (w (n - 1 - t))) (min (ft_R z q m w n (t + 1) j) (ft_R z q m w n t (j + 1)) + 1) := rfl
theorem ft_R_ub {z : Nat} (hz : z ≤ 1) (q : Nat → Nat) (m : Nat) (w : Nat → Nat) (n t j : Nat) : ft_R z q m w n t j ≤ t + j := by
  have := ft_rd_ub hz (ft_rl (fun i => w (n - 1 - i)) t) (ft_rl (fun i => q (m - 1 - i)) j)
  rw [ft_rl_len, ft_rl_len] at this
  exact this
/-- the reference's table: i letters of q, j of w, from the start -/
def ft_D (q w : Nat → Nat) (i j : Nat) : Nat := ft_rd 1 (ft_rl w j) (ft_rl q i)
theorem ft_D_0 (q w : Nat → Nat) (j : Nat) : ft_D q w 0 j = j := by
  unfold ft_D
  show ft_rd 1 _ [] = _
  rw [ft_rd_n, ft_rl_len, Nat.mul_one]
theorem ft_D_n (q w : Nat → Nat) (i : Nat) : ft_D q w i 0 = i := ft_rl_len q i
theorem ft_D_s (q w : Nat → Nat) (i j : Nat) : ft_D q w (i + 1) (j + 1) = min (ft_D q w i j + ft_ne (q i) (w j)) (min (ft_D q w i (j + 1)) (ft_D q w (i + 1) j) + 1) := rfl
theorem ft_D_ub (q w : Nat → Nat) (i j : Nat) : ft_D q w i j ≤ j + i := by
  have := ft_rd_ub (z := 1) (Nat.le_refl 1) (ft_rl w j) (ft_rl q i)
  rw [ft_rl_len, ft_rl_len] at this
  exact this
def ft_bs (D : Nat → Nat) : Nat → Nat
  | 0 => 9
  | j + 1 => min (ft_bs D j) (D j)
theorem ft_bs_s (D : Nat → Nat) (j : Nat) : ft_bs D (j + 1) = min (ft_bs D j) (D j) := rfl
theorem ft_bs_le (D : Nat → Nat) (n : Nat) : ∀ j, j < n → ft_bs D n ≤ D j := by
  induction n with
  | zero => intro j h; omega
  | succ n ih =>
    intro j h
    rw [ft_bs_s]
    by_cases e : j = n
    · subst e; omega
    · have := ih j (by omega); omega
theorem ft_bs_9 (D : Nat → Nat) (n : Nat) : ft_bs D n ≤ 9 := by
  induction n with
  | zero => exact Nat.le_refl 9
  | succ n ih => rw [ft_bs_s]; omega
theorem ft_bs_ex (D : Nat → Nat) (n : Nat) : ft_bs D n = 9 ∨ ∃ j, j < n ∧ ft_bs D n = D j := by
  induction n with
  | zero => exact Or.inl rfl
  | succ n ih =>
    rw [ft_bs_s]
    by_cases c : D n ≤ ft_bs D n
    · exact Or.inr ⟨n, by omega, by omega⟩
    · cases ih with
      | inl h => exact Or.inl (by omega)
      | inr h => obtain ⟨j, h1, h2⟩ := h; exact Or.inr ⟨j, by omega, by omega⟩
theorem ft_edit (q : Nat → Nat) (m : Nat) (w : Nat → Nat) (n : Nat) : ft_R 1 q m w n n m = ft_D q w m n := by
  unfold ft_R ft_D
  rw [ft_rl_rev, ft_rl_rev, ft_rev]
theorem ft_reach (q : Nat → Nat) {m : Nat} (hm : m ≤ 6) (w : Nat → Nat) (n : Nat) : ft_bs (ft_D q w m) (n + 1) = ft_R 0 q m w n n m := by
  have e : ft_R 0 q m w n n m = ft_rd 0 (ft_rl w n).reverse (ft_rl q m).reverse := by
    unfold ft_R
    rw [ft_rl_rev, ft_rl_rev]
  have d : ∀ j, j ≤ n → ft_D q w m j = ft_rd 1 ((ft_rl w n).reverse.take j) (ft_rl q m).reverse := fun j hj => by
    rw [ft_take w hj, ft_rev]
    rfl
  have lo : ft_bs (ft_D q w m) (n + 1) ≤ ft_R 0 q m w n n m := by
    obtain ⟨j, h1, h2⟩ := ft_R2 (ft_rl w n).reverse (ft_rl q m).reverse
    rw [List.length_reverse, ft_rl_len] at h1
    have := ft_bs_le (ft_D q w m) (n + 1) j (by omega)
    rw [d j h1] at this
    rw [e]
    omega
  have hi : ∀ j, j ≤ n → ft_R 0 q m w n n m ≤ ft_D q w m j := fun j hj => by
    rw [e, d j hj]
    have := ft_R1 ((ft_rl w n).reverse.drop j) ((ft_rl w n).reverse.take j) (ft_rl q m).reverse
    rw [List.take_append_drop] at this
    exact this
  have h0 := hi 0 (Nat.zero_le n)
  rw [ft_D_n] at h0
  cases ft_bs_ex (ft_D q w m) (n + 1) with
  | inl h => omega
  | inr h =>
    obtain ⟨j, h1, h2⟩ := h
    have := hi j (by omega)
    omega
end
section
/-! counts and least ones -/
noncomputable def ft_cn (p : Nat → Prop) : Nat → Nat
  | 0 => 0
  | n + 1 => ft_cn p n + @ite Nat (p n) (Classical.propDecidable (p n)) 1 0
theorem ft_cn_t {p : Nat → Prop} {n : Nat} (h : p n) : ft_cn p (n + 1) = ft_cn p n + 1 := by
  show ft_cn p n + @ite Nat (p n) (Classical.propDecidable (p n)) 1 0 = _
  rw [if_pos h]
theorem ft_cn_f {p : Nat → Prop} {n : Nat} (h : ¬ p n) : ft_cn p (n + 1) = ft_cn p n := by
  show ft_cn p n + @ite Nat (p n) (Classical.propDecidable (p n)) 1 0 = _
  rw [if_neg h]; rfl
theorem ft_cn_cg {p r : Nat → Prop} {n : Nat} (h : ∀ v, v < n → (p v ↔ r v)) : ft_cn p n = ft_cn r n := by
  induction n with
  | zero => rfl
  | succ n ih =>
    have e := ih (fun v hv => h v (by omega))
    by_cases c : p n
    · rw [ft_cn_t c, ft_cn_t ((h n (by omega)).mp c), e]
    · rw [ft_cn_f c, ft_cn_f (fun z => c ((h n (by omega)).mpr z)), e]
noncomputable def ft_or (p : Nat → Prop) (x : Nat → Int32) : Nat → Int32
  | 0 => 0
  | n + 1 => @ite Int32 (p n) (Classical.propDecidable (p n)) (ft_or p x n ||| x n) (ft_or p x n)
theorem ft_or_t {p : Nat → Prop} {x : Nat → Int32} {n : Nat} (h : p n) : ft_or p x (n + 1) = ft_or p x n ||| x n := if_pos h
theorem ft_or_f {p : Nat → Prop} {x : Nat → Int32} {n : Nat} (h : ¬ p n) : ft_or p x (n + 1) = ft_or p x n := if_neg h
def ft_mn (s : Nat) (D : Nat → Nat) : Nat → Nat
  | 0 => s
  | n + 1 => min (ft_mn s D n) (D n)
theorem ft_mn_s (s : Nat) (D : Nat → Nat) (n : Nat) : ft_mn s D (n + 1) = min (ft_mn s D n) (D n) := rfl
theorem ft_mn_le (s : Nat) (D : Nat → Nat) (n : Nat) : ft_mn s D n ≤ s := by
  induction n with
  | zero => exact Nat.le_refl s
  | succ n ih => rw [ft_mn_s]; omega
theorem ft_mn_bs (s : Nat) (hs : s ≤ 9) (D : Nat → Nat) (n : Nat) : ft_mn s D n = min s (ft_bs D n) := by
  induction n with
  | zero => show s = min s 9; omega
  | succ n ih => rw [ft_mn_s, ft_bs_s, ih]; omega
def ft_bf (re : Nat → Nat) (ws : Nat → Int32) (pl : Nat → Nat) (v w : Nat) : Prop := re v < re w ∨ re v = re w ∧ (¬ ws v ≤ ws w ∨ ws v = ws w ∧ pl v < pl w)
theorem ft_p31 : (15625 : Nat) < 2 ^ 31 := by decide
theorem ft_fuel {d n : Nat} (h : d < n) : ∃ k, n = k + 1 := ⟨n - 1, by omega⟩
/-! the component's small methods -/
theorem fx_5 : ¬ (5 : Int32) = 0 := by decide
theorem fx_b {f : Nat → Nat} (hf : ∀ i, f i < 4) {k : Nat} (hk : k ≤ 6) : ft_cd f k < 2 ^ 31 := Nat.lt_trans (ft_cd_lt hf hk) ft_p31
theorem fx_d5 {f : Nat → Nat} (hf : ∀ i, f i < 4) {k : Nat} (hk : k < 6) : nI (ft_cd f (k + 1)) / 5 = nI (ft_cd f k) := by
  have := pk_div (a := ft_cd f (k + 1)) (d := 5) (fx_b hf hk) (by decide) (by decide)
  rw [ft_cd_div hf] at this
  exact this
theorem fx_r5 {f : Nat → Nat} (hf : ∀ i, f i < 4) {k : Nat} (hk : k < 6) : nI (ft_cd f (k + 1)) - nI (ft_cd f (k + 1)) / 5 * 5 = nI (f k + 1) := by
  have := pk_rem (a := ft_cd f (k + 1)) (d := 5) (fx_b hf hk) (by decide) (by decide)
  rw [ft_cd_mod hf] at this
  exact this
theorem fx_n0 {f : Nat → Nat} (hf : ∀ i, f i < 4) {k : Nat} (hk : k < 6) : ¬ nI (ft_cd f (k + 1)) = 0 := nI_ne0 (ft_cd_pos f k) (fx_b hf hk)
theorem fx_lengthOf_4 {post : Int32 → Prop} {f : Nat → Nat} (hf : ∀ i, f i < 4) {m : Nat} (hm : m ≤ 6) (hp : post (nI m)) : ∀ k j n, j + k = m → k < n → wX_lengthOf_4 post n (nI (ft_cd f k)) (nI j) := by
  intro k
  induction k with
  | zero =>
    intro j n hj hn
    obtain ⟨n, rfl⟩ := ft_fuel hn
    have e : j = m := by omega
    subst e
    exact br_c (fun _ => hp) (fun _ => br_t rfl hp)
  | succ k ih =>
    intro j n hj hn
    obtain ⟨n, rfl⟩ := ft_fuel hn
    exact br_f (nI_ge (b := 6) (by omega) (by decide)) (br_f (fx_n0 hf (by omega)) ⟨fx_5, nm_r (fx_d5 hf (by omega)) (nm_r (nI_1 j) (ih (j + 1) n (by omega) (by omega)))⟩)
theorem fx_lengthOf {post : Int32 → Prop} {f : Nat → Nat} (hf : ∀ i, f i < 4) {m : Nat} (hm : m ≤ 6) (hp : post (nI m)) : wpX_lengthOf post (nI (ft_cd f m)) := ⟨m + 1, fx_lengthOf_4 hf hm hp m 0 (m + 1) (by omega) (by omega)⟩
theorem fx_lastLetter {post : Int32 → Prop} {f : Nat → Nat} (hf : ∀ i, f i < 4) {k : Nat} (hk : k < 6) (hp : post (nI (f k))) : wpX_lastLetter post (nI (ft_cd f (k + 1))) := by
  refine ⟨fx_5, ?_⟩
  rw [fx_r5 hf hk, nI_pred]
  exact hp
theorem fx_place_4 {post : Int32 → Prop} {f : Nat → Nat} (hf : ∀ i, f i < 4) {m : Nat} (hp : post (nI (ft_pl f m))) : ∀ d k n, m + k + d = 6 → d < n → wX_alphabeticPlace_4 post n (nI (ft_P (ft_pd f m) (m + k))) (nI k) := by
  intro d
  induction d with
  | zero =>
    intro k n hk hn
    obtain ⟨n, rfl⟩ := ft_fuel hn
    have e : ft_P (ft_pd f m) (m + k) = ft_pl f m := by rw [show m + k = 6 by omega]; rfl
    rw [e]
    refine br_c (fun _ => hp) (fun h => br_t ?_ hp)
    cases m with
    | zero => exact absurd (nI_le (a := 6) (b := k) (by omega) (by omega)) h
    | succ m =>
      have l := ft_P_low (f := f) m 5
      have b := ft_pl_lt hf (m + 1)
      exact nI_le (a := 3125) (b := ft_pl f (m + 1)) l (by omega)
  | succ d ih =>
    intro k n hk hn
    obtain ⟨n, rfl⟩ := ft_fuel hn
    have b : ft_P (ft_pd f m) (m + k) < 3125 := Nat.lt_of_lt_of_le (ft_P_pw (ft_pd_lt hf m) (m + k)) (show 5 ^ (m + k) ≤ 5 ^ 5 from Nat.pow_le_pow_right (by decide) (by omega))
    have e : nI (ft_P (ft_pd f m) (m + k)) * 5 = nI (ft_P (ft_pd f m) (m + (k + 1))) := by
      have := pk_mul (ft_P (ft_pd f m) (m + k)) 5
      rw [← ft_pd_s f (by omega)] at this
      exact this
    exact br_f (nI_ge (b := 6) (by omega) (by decide)) (br_f (nI_ge (b := 3125) b (by decide)) (nm_r e (nm_r (nI_1 k) (ih (k + 1) n (by omega) (by omega)))))
theorem fx_place {post : Int32 → Prop} {f : Nat → Nat} (hf : ∀ i, f i < 4) {m : Nat} (hm : m ≤ 6) {x : Int32} (hx : x = nI (ft_cd f m)) (hp : post (nI (ft_pl f m))) : wpX_alphabeticPlace post x := by
  have := fx_place_4 hf hp (6 - m) 0 (6 - m + 1) (by omega) (by omega)
  have e : ft_P (ft_pd f m) (m + 0) = ft_cd f m := ft_pd_cd f m m (Nat.le_refl m)
  rw [e, ← hx] at this
  exact ⟨_, this⟩
/-! one row more of the table -/
theorem fx_extend_23 {post : SX → Prop} {lm dc qc ct : Int32} {cs ws rc : Nat → Int32} {q : Nat → Nat} (hq : ∀ i, q i < 4) {m b : Nat} (hm : m ≤ 6) (hb : b < 4) {P E : Nat → Nat} (hP : ∀ j, j ≤ m → P j < 1000) (hE : ∀ j, j ≤ m → E j < 1000) (hrec : ∀ j, j < m → E (j + 1) = min (P j + ft_ne (q (m - 1 - j)) b) (min (E j) (P (j + 1)) + 1)) (hpost : ∀ ro, (∀ j, j ≤ m → ro j = nI (E j)) → post (lm, dc, qc, ct, cs, ws, rc, ro)) : ∀ (d k n : Nat) (ro : Nat → Int32), k + d = m → d < n → (∀ j, j ≤ k → ro j = nI (E j)) → (∀ j, k < j → j ≤ m → ro j = nI (P j)) → wX_extendRow_23 post (nI (b + 1)) lm dc qc ct n (nI (P k)) (nI (ft_cd q d)) (nI (k + 1)) cs ws rc ro := by
  intro d
  induction d with
  | zero =>
    intro k n ro hk hn h1 h2
    obtain ⟨n, rfl⟩ := ft_fuel hn
    have e : k = m := by omega
    subst e
    exact br_c (fun _ => hpost ro h1) (fun _ => br_t rfl (hpost ro h1))
  | succ d ih =>
    intro k n ro hk hn h1 h2
    obtain ⟨n, rfl⟩ := ft_fuel hn
    have p1 := hP k (by omega)
    have p2 := hP (k + 1) (by omega)
    have p3 := hE k (by omega)
    have p4 := hE (k + 1) (by omega)
    have nb := ft_ne_le (q d) b
    have rr := hrec k (by omega)
    rw [show m - 1 - k = d by omega] at rr
    have hq4 := hq d
    have e6 : ro (nI (k + 1)).toNatClampNeg = nI (P (k + 1)) := by rw [nI_clamp (by omega)]; exact h2 _ (by omega) (by omega)
    have e7 : ro (nI (k + 1) - 1).toNatClampNeg + 1 = nI (E k + 1) := by rw [nI_pred, nI_clamp (by omega), h1 k (Nat.le_refl k), nI_1]
    have s105 : wX_extendRow_105 post (wX_extendRow_23 post (nI (b + 1)) lm dc qc ct n) (nI (b + 1)) (nI (ft_cd q (d + 1))) (nI (k + 1)) (nI (P (k + 1))) (nI (E (k + 1))) lm dc qc ct cs ws rc ro := by
      refine ⟨vp_in_nI (by omega) (by decide), nm_e ⟨fx_5, nm_r (fx_d5 hq (by omega)) (nm_r (nI_1 (k + 1)) (ih (k + 1) n _ (by omega) (by omega) ?_ ?_))⟩⟩
      · intro j hj
        rw [nI_clamp (by omega)]
        by_cases e : j = k + 1
        · subst e; exact pk_us
        · rw [pk_un e]; exact h1 j (by omega)
      · intro j hj hj2
        rw [nI_clamp (by omega), pk_un (by omega)]
        exact h2 j (by omega) hj2
    have s76 : ∀ Z, Z = min (P k + ft_ne (q d) b) (P (k + 1) + 1) → wX_extendRow_76 post (wX_extendRow_23 post (nI (b + 1)) lm dc qc ct n) (nI (b + 1)) (nI (ft_cd q (d + 1))) (nI (k + 1)) (nI (P (k + 1))) (nI Z) lm dc qc ct cs ws rc ro := by
      intro Z hZ
      have vi : vp_in (nI (k + 1) - 1) 7 := by rw [nI_pred]; exact vp_in_nI (by omega) (by decide)
      refine ⟨vi, pk_le Z (E k + 1) (fun h => ?_) (fun h => ⟨vi, nm_r e7 ?_⟩) rfl e7 (by omega) (by omega)⟩
      · have e : Z = E (k + 1) := by omega
        rw [e]; exact s105
      · have e : E k + 1 = E (k + 1) := by omega
        rw [e]; exact s105
    have s59 : wX_extendRow_59 post (wX_extendRow_23 post (nI (b + 1)) lm dc qc ct n) (nI (b + 1)) (nI (ft_cd q (d + 1))) (nI (k + 1)) (nI (P (k + 1))) (nI (P k + ft_ne (q d) b)) lm dc qc ct cs ws rc ro :=
      pk_le (P k + ft_ne (q d) b) (P (k + 1) + 1) (fun h => s76 _ (by omega)) (fun h => nm_r (nI_1 _) (s76 _ (by omega))) rfl (nI_1 _) (by omega) (by omega)
    refine br_f (nI_ge (b := 7) (by omega) (by decide)) (br_f (fx_n0 hq (by omega)) ⟨vp_in_nI (by omega) (by decide), nm_r e6 ⟨fx_5, pk_eq (q d + 1) (b + 1) (fun h => ?_) (fun h => ?_) (fx_r5 hq (by omega)) rfl (by omega) (by omega)⟩⟩)
    · have e : ft_ne (q d) b = 0 := if_pos (by omega)
      rw [e] at s59
      exact s59
    · have e : ft_ne (q d) b = 1 := if_neg (by omega)
      rw [e, ← nI_1 (P k)] at s59
      exact s59
theorem fx_extendRow {post : SX → Prop} {lm dc qc ct : Int32} {cs ws rc ro : Nat → Int32} {q : Nat → Nat} (hq : ∀ i, q i < 4) {m b : Nat} (hm : m ≤ 6) (hb : b < 4) {P E : Nat → Nat} {x z : Int32} (hqc : qc = nI (ft_cd q m)) (hx : x = nI (b + 1)) (hz : z = nI (E 0)) (hro : ∀ j, j ≤ m → ro j = nI (P j)) (hP : ∀ j, j ≤ m → P j < 1000) (hE : ∀ j, j ≤ m → E j < 1000) (hrec : ∀ j, j < m → E (j + 1) = min (P j + ft_ne (q (m - 1 - j)) b) (min (E j) (P (j + 1)) + 1)) (hpost : ∀ ro, (∀ j, j ≤ m → ro j = nI (E j)) → post (lm, dc, qc, ct, cs, ws, rc, ro)) : wpX_extendRow post (lm, dc, qc, ct, cs, ws, rc, ro) x z := by
  subst hx hz hqc
  refine nm_r (hro 0 (Nat.zero_le m)) (nm_e ⟨m + 1, fx_extend_23 hq hm hb hP hE hrec hpost m 0 (m + 1) _ (by omega) (by omega) ?_ ?_⟩)
  · intro j hj
    have e : j = 0 := by omega
    subst e
    exact pk_us
  · intro j hj hj2
    rw [pk_un (by omega)]
    exact hro j hj2
end
section
theorem fx_qd_26 {post : Int32 → SX → Prop} {lm dc ct : Int32} {cs ws rc : Nat → Int32} {q w : Nat → Nat} (hq : ∀ i, q i < 4) (hw : ∀ i, w i < 4) {m L z : Nat} (hm : m ≤ 6) (hL : L ≤ 6) (hz : z ≤ 1) (hpost : ∀ ro, post (nI (ft_R z q m w L L m)) (lm, dc, nI (ft_cd q m), ct, cs, ws, rc, ro)) : ∀ (d t n : Nat) (ro : Nat → Int32), t + d = L → d < n → (∀ j, j ≤ m → ro j = nI (ft_R z q m w L t j)) → wX_queryDistance_26 post (nI z) n (nI (ft_cd w d)) (nI (t + 1)) lm dc (nI (ft_cd q m)) ct cs ws rc ro := by
  intro d
  induction d with
  | zero =>
    intro t n ro ht hn h1
    obtain ⟨n, rfl⟩ := ft_fuel hn
    have e : t = L := by omega
    subst e
    have f : wX_queryDistance_58 post lm dc (nI (ft_cd q m)) ct cs ws rc ro := by
      refine fx_lengthOf hq hm ⟨vp_in_nI (by omega) (by decide), ?_⟩
      rw [nI_clamp (by omega), h1 m (Nat.le_refl m)]
      exact hpost ro
    exact br_c (fun _ => f) (fun _ => br_t rfl f)
  | succ d ih =>
    intro t n ro ht hn h1
    obtain ⟨n, rfl⟩ := ft_fuel hn
    refine br_f (nI_nlt (a := 6) (b := t + 1) (by omega) (by decide)) (br_f (fx_n0 hw (by omega)) ⟨fx_5, fx_extendRow hq hm (hw d) (P := ft_R z q m w L t) (E := ft_R z q m w L (t + 1)) rfl (fx_r5 hw (by omega)) ?_ h1 ?_ ?_ ?_ (fun ro' h' => ⟨fx_5, nm_r (fx_d5 hw (by omega)) (nm_r (nI_1 (t + 1)) (ih (t + 1) n ro' (by omega) (by omega) h'))⟩)⟩)
    · rw [ft_R_n]; exact pk_mul _ _
    · intro j hj
      have := ft_R_ub hz q m w L t j
      omega
    · intro j hj
      have := ft_R_ub hz q m w L (t + 1) j
      omega
    · intro j hj
      rw [ft_R_s, show L - 1 - t = d by omega]
theorem fx_qd_2 {post : Int32 → SX → Prop} {lm dc ct : Int32} {cs ws rc : Nat → Int32} {q w : Nat → Nat} (hq : ∀ i, q i < 4) (hw : ∀ i, w i < 4) {m L z : Nat} (hm : m ≤ 6) (hL : L ≤ 6) (hz : z ≤ 1) (hpost : ∀ ro, post (nI (ft_R z q m w L L m)) (lm, dc, nI (ft_cd q m), ct, cs, ws, rc, ro)) : ∀ (d i n : Nat) (ro : Nat → Int32), i + d = 7 → d < n → (∀ j, j < i → ro j = nI j) → wX_queryDistance_2 post (nI (ft_cd w L)) (nI z) lm dc (nI (ft_cd q m)) ct n (nI i) cs ws rc ro := by
  intro d
  induction d with
  | zero =>
    intro i n ro hi hn h1
    obtain ⟨n, rfl⟩ := ft_fuel hn
    refine br_t (nI_le (a := 7) (by omega) (by omega)) ⟨L + 1, fx_qd_26 hq hw hm hL hz hpost L 0 (L + 1) ro (by omega) (by omega) ?_⟩
    intro j hj
    rw [ft_R_0]
    exact h1 j (by omega)
  | succ d ih =>
    intro i n ro hi hn h1
    obtain ⟨n, rfl⟩ := ft_fuel hn
    refine br_f (nI_ge (b := 7) (by omega) (by decide)) ⟨vp_in_nI (by omega) (by decide), nm_e (nm_r (nI_1 i) (ih (i + 1) n _ (by omega) (by omega) ?_))⟩
    intro j hj
    rw [nI_clamp (by omega)]
    by_cases e : j = i
    · subst e; exact pk_us
    · rw [pk_un e]; exact h1 j (by omega)
theorem fx_queryDistance {post : Int32 → SX → Prop} {lm dc ct : Int32} {cs ws rc ro : Nat → Int32} {q w : Nat → Nat} (hq : ∀ i, q i < 4) (hw : ∀ i, w i < 4) {m L : Nat} (z : Nat) (hm : m ≤ 6) (hL : L ≤ 6) (hz : z ≤ 1) {x y qc : Int32} (hqc : qc = nI (ft_cd q m)) (hx : x = nI (ft_cd w L)) (hy : y = nI z) (hpost : ∀ ro, post (nI (ft_R z q m w L L m)) (lm, dc, qc, ct, cs, ws, rc, ro)) : wpX_queryDistance post (lm, dc, qc, ct, cs, ws, rc, ro) x y := by
  subst hx hy hqc
  exact ⟨8, fx_qd_2 hq hw hm hL hz hpost 7 0 8 ro (by omega) (by omega) (fun j hj => absurd hj (by omega))⟩
/-! what holds of a dictionary: wd l its lists, ln l their lengths, q and m the query -/
def fx_ok (wd : Nat → Nat → Nat) (ln : Nat → Nat) (q : Nat → Nat) (m c : Nat) (cs : Nat → Int32) : Prop := (∀ i, q i < 4) ∧ m ≤ 6 ∧ (∀ l i, wd l i < 4) ∧ (∀ l, ln l ≤ 6) ∧ c ≤ 12 ∧ ∀ l, l < 12 → cs l = nI (ft_cd (wd l) (ln l))
def ft_re (wd : Nat → Nat → Nat) (ln : Nat → Nat) (q : Nat → Nat) (m l : Nat) : Nat := ft_R 0 q m (wd l) (ln l) (ln l) m
def ft_ed (wd : Nat → Nat → Nat) (ln : Nat → Nat) (q : Nat → Nat) (m l : Nat) : Nat := ft_R 1 q m (wd l) (ln l) (ln l) m
section
variable {lm dc : Int32} {cs ws : Nat → Int32} {wd : Nat → Nat → Nat} {ln q : Nat → Nat} {m c : Nat}
theorem fx_re_ub (H : fx_ok wd ln q m c cs) (l : Nat) : ft_re wd ln q m l ≤ 12 := by
  have a := ft_R_ub (z := 0) (by decide) q m (wd l) (ln l) (ln l) m
  have b := H.2.2.2.1 l
  have d := H.2.1
  unfold ft_re
  omega
theorem fx_ed_ub (H : fx_ok wd ln q m c cs) (l : Nat) : ft_ed wd ln q m l ≤ 12 := by
  have a := ft_R_ub (z := 1) (by decide) q m (wd l) (ln l) (ln l) m
  have b := H.2.2.2.1 l
  have d := H.2.1
  unfold ft_ed
  omega
theorem fx_mr_2 {post : SX → Prop} (H : fx_ok wd ln q m c cs) (hpost : ∀ rc ro, (∀ j, j < c → rc j = nI (ft_re wd ln q m j)) → post (lm, dc, nI (ft_cd q m), nI c, cs, ws, rc, ro)) : ∀ (d i n : Nat) (rc ro : Nat → Int32), i + d = c → d < n → (∀ j, j < i → rc j = nI (ft_re wd ln q m j)) → wX_measureReach_2 post n (nI i) lm dc (nI (ft_cd q m)) (nI c) cs ws rc ro := by
  have hc := H.2.2.2.2.1
  intro d
  induction d with
  | zero =>
    intro i n rc ro hi hn h1
    obtain ⟨n, rfl⟩ := ft_fuel hn
    have e : i = c := by omega
    subst e
    exact br_t (nI_le (Nat.le_refl i) (by omega)) (hpost rc ro h1)
  | succ d ih =>
    intro i n rc ro hi hn h1
    obtain ⟨n, rfl⟩ := ft_fuel hn
    have vi : vp_in (nI i) 12 := vp_in_nI (by omega) (by decide)
    have ex : cs (nI i).toNatClampNeg = nI (ft_cd (wd i) (ln i)) := by rw [nI_clamp (by omega)]; exact H.2.2.2.2.2 i (by omega)
    refine br_f (nI_ge (by omega) (by omega)) ⟨vi, fx_queryDistance H.1 (H.2.2.1 i) 0 H.2.1 (H.2.2.2.1 i) (by decide) rfl ex rfl (fun ro' => ⟨vi, nm_e (nm_r (nI_1 i) (ih (i + 1) n _ ro' (by omega) (by omega) ?_))⟩)⟩
    intro j hj
    rw [nI_clamp (by omega)]
    by_cases e : j = i
    · subst e; exact pk_us
    · rw [pk_un e]; exact h1 j (by omega)
theorem fx_measureReach {post : SX → Prop} (H : fx_ok wd ln q m c cs) {rc ro : Nat → Int32} (hpost : ∀ rc ro, (∀ j, j < c → rc j = nI (ft_re wd ln q m j)) → post (lm, dc, nI (ft_cd q m), nI c, cs, ws, rc, ro)) : wpX_measureReach post (lm, dc, nI (ft_cd q m), nI c, cs, ws, rc, ro) :=
  ⟨c + 1, fx_mr_2 H hpost c 0 (c + 1) rc ro (by omega) (by omega) (fun j hj => absurd hj (by omega))⟩
theorem fx_offered_8 {post : Int32 → SX → Prop} (H : fx_ok wd ln q m c cs) {K : Nat} (hK : K ≤ 3) {rc ro : Nat → Int32} (h1 : ∀ j, j < c → rc j = nI (ft_re wd ln q m j)) (hpost : post (nI (ft_cn (fun l => ft_re wd ln q m l ≤ K) c)) (nI K, dc, nI (ft_cd q m), nI c, cs, ws, rc, ro)) : ∀ d i n, i + d = c → d < n → wX_offered_8 post (nI K) dc (nI (ft_cd q m)) (nI c) cs ws rc ro n (nI (ft_cn (fun l => ft_re wd ln q m l ≤ K) i)) (nI i) := by
  have hc := H.2.2.2.2.1
  intro d
  induction d with
  | zero =>
    intro i n hi hn
    obtain ⟨n, rfl⟩ := ft_fuel hn
    have e : i = c := by omega
    subst e
    exact br_t (nI_le (Nat.le_refl i) (by omega)) hpost
  | succ d ih =>
    intro i n hi hn
    obtain ⟨n, rfl⟩ := ft_fuel hn
    have vi : vp_in (nI i) 12 := vp_in_nI (by omega) (by decide)
    have ex : rc (nI i).toNatClampNeg = nI (ft_re wd ln q m i) := by rw [nI_clamp (by omega)]; exact h1 i (by omega)
    have ub := fx_re_ub H i
    have I := ih (i + 1) n (by omega) (by omega)
    refine br_f (nI_ge (by omega) (by omega)) ⟨vi, pk_lt K (ft_re wd ln q m i) (fun h => nm_r (nI_1 i) ?_) (fun h => nm_r (nI_1 _) (nm_r (nI_1 i) ?_)) rfl ex (by omega) (by omega)⟩
    · rw [ft_cn_f (by omega)] at I
      exact I
    · rw [ft_cn_t (by omega)] at I
      exact I
theorem fx_offered {post : Int32 → SX → Prop} (H : fx_ok wd ln q m c cs) {K : Nat} (hK : K ≤ 3) {rc ro : Nat → Int32} (hpost : ∀ rc ro, post (nI (ft_cn (fun l => ft_re wd ln q m l ≤ K) c)) (nI K, dc, nI (ft_cd q m), nI c, cs, ws, rc, ro)) : wpX_offered post (nI K, dc, nI (ft_cd q m), nI c, cs, ws, rc, ro) :=
  fx_measureReach H (fun rc ro h => ⟨c + 1, fx_offered_8 H hK h (hpost rc ro) c 0 (c + 1) (by omega) (by omega)⟩)
theorem fx_nearest_9 {post : Int32 → SX → Prop} (H : fx_ok wd ln q m c cs) {K : Nat} (hK : K ≤ 3) {rc : Nat → Int32} (hT : ft_mn (K + 1) (ft_ed wd ln q m) c ≤ K → ∀ ro, post (nI (ft_mn (K + 1) (ft_ed wd ln q m) c)) (nI K, dc, nI (ft_cd q m), nI c, cs, ws, rc, ro)) (hF : K < ft_mn (K + 1) (ft_ed wd ln q m) c → ∀ ro, post (-4) (nI K, dc, nI (ft_cd q m), nI c, cs, ws, rc, ro)) : ∀ d i n ro, i + d = c → d < n → wX_nearest_9 post n (nI (ft_mn (K + 1) (ft_ed wd ln q m) i)) (nI i) (nI K) dc (nI (ft_cd q m)) (nI c) cs ws rc ro := by
  have hc := H.2.2.2.2.1
  intro d
  induction d with
  | zero =>
    intro i n ro hi hn
    obtain ⟨n, rfl⟩ := ft_fuel hn
    have e : i = c := by omega
    subst e
    have ub := ft_mn_le (K + 1) (ft_ed wd ln q m) i
    exact br_t (nI_le (Nat.le_refl i) (by omega)) (pk_le _ K (fun h => hT h ro) (fun h => hF h ro) rfl rfl (by omega) (by omega))
  | succ d ih =>
    intro i n ro hi hn
    obtain ⟨n, rfl⟩ := ft_fuel hn
    have vi : vp_in (nI i) 12 := vp_in_nI (by omega) (by decide)
    have ex : cs (nI i).toNatClampNeg = nI (ft_cd (wd i) (ln i)) := by rw [nI_clamp (by omega)]; exact H.2.2.2.2.2 i (by omega)
    have ub := ft_mn_le (K + 1) (ft_ed wd ln q m) i
    have ue := fx_ed_ub H i
    refine br_f (nI_ge (by omega) (by omega)) ⟨vi, fx_queryDistance H.1 (H.2.2.1 i) 1 H.2.1 (H.2.2.2.1 i) (by decide) rfl ex rfl (fun ro' => ?_)⟩
    have I := ih (i + 1) n ro' (by omega) (by omega)
    rw [ft_mn_s] at I
    refine pk_le _ (ft_ed wd ln q m i) (fun h => nm_r (nI_1 i) ?_) (fun h => nm_r (nI_1 i) ?_) rfl rfl (by omega) (by omega)
    · rw [Nat.min_eq_left h] at I
      exact I
    · rw [Nat.min_eq_right (Nat.le_of_lt h)] at I
      exact I
theorem fx_nearest {post : Int32 → SX → Prop} (H : fx_ok wd ln q m c cs) {K : Nat} (hK : K ≤ 3) {rc ro : Nat → Int32} (hT : ft_mn (K + 1) (ft_ed wd ln q m) c ≤ K → ∀ ro, post (nI (ft_mn (K + 1) (ft_ed wd ln q m) c)) (nI K, dc, nI (ft_cd q m), nI c, cs, ws, rc, ro)) (hF : K < ft_mn (K + 1) (ft_ed wd ln q m) c → ∀ ro, post (-4) (nI K, dc, nI (ft_cd q m), nI c, cs, ws, rc, ro)) : wpX_nearest post (nI K, dc, nI (ft_cd q m), nI c, cs, ws, rc, ro) :=
  nm_r (nI_1 K) ⟨c + 1, fx_nearest_9 H hK hT hF c 0 (c + 1) ro (by omega) (by omega)⟩
end
end
section
section
variable {lm dc : Int32} {cs ws : Nat → Int32} {wd : Nat → Nat → Nat} {ln q : Nat → Nat} {m c : Nat}
def ft_pw (wd : Nat → Nat → Nat) (ln : Nat → Nat) (l : Nat) : Nat := ft_pl (wd l) (ln l)
theorem fx_comesBefore {post : Int32 → Prop} (H : fx_ok wd ln q m c cs) {rc ro : Nat → Int32} (h1 : ∀ j, j < c → rc j = nI (ft_re wd ln q m j)) {v w : Nat} (hv : v < c) (hw : w < c) (hT : ft_bf (ft_re wd ln q m) ws (ft_pw wd ln) v w → post 1) (hF : ¬ ft_bf (ft_re wd ln q m) ws (ft_pw wd ln) v w → post 0) : wpX_comesBefore post (lm, dc, nI (ft_cd q m), nI c, cs, ws, rc, ro) (nI v) (nI w) := by
  have hc := H.2.2.2.2.1
  have vi : vp_in (nI v) 12 := vp_in_nI (by omega) (by decide)
  have wi : vp_in (nI w) 12 := vp_in_nI (by omega) (by decide)
  have ev : (nI v).toNatClampNeg = v := nI_clamp (by omega)
  have ew : (nI w).toNatClampNeg = w := nI_clamp (by omega)
  have rv : rc (nI v).toNatClampNeg = nI (ft_re wd ln q m v) := by rw [ev]; exact h1 v hv
  have rw' : rc (nI w).toNatClampNeg = nI (ft_re wd ln q m w) := by rw [ew]; exact h1 w hw
  have cv : cs (nI v).toNatClampNeg = nI (ft_cd (wd v) (ln v)) := by rw [ev]; exact H.2.2.2.2.2 v (by omega)
  have cw : cs (nI w).toNatClampNeg = nI (ft_cd (wd w) (ln w)) := by rw [ew]; exact H.2.2.2.2.2 w (by omega)
  have uv := fx_re_ub H v
  have uw := fx_re_ub H w
  have pv := ft_pl_lt (H.2.2.1 v) (ln v)
  have pw := ft_pl_lt (H.2.2.1 w) (ln w)
  refine ⟨vi, wi, pk_eq (ft_re wd ln q m v) (ft_re wd ln q m w) (fun e => ⟨vi, wi, br_c (fun we => ⟨vi, ?_⟩) (fun we => ⟨vi, wi, br_c (fun h => hF ?_) (fun h => hT ?_)⟩)⟩) (fun e => ⟨vi, wi, pk_le (ft_re wd ln q m w) (ft_re wd ln q m v) (fun h => hF ?_) (fun h => hT (Or.inl h)) rw' rv (by omega) (by omega)⟩) rv rw' (by omega) (by omega)⟩
  · refine fx_place (H.2.2.1 v) (H.2.2.2.1 v) cv ⟨wi, fx_place (H.2.2.1 w) (H.2.2.2.1 w) cw (pk_le (ft_pw wd ln w) (ft_pw wd ln v) (fun h => hF ?_) (fun h => hT ?_) rfl rfl (Nat.lt_trans pw ft_p31) (Nat.lt_trans pv ft_p31))⟩
    · rw [ev, ew] at we
      intro b
      cases b with
      | inl b => omega
      | inr b =>
        cases b.2 with
        | inl b => exact b (we ▸ Int32.le_refl _)
        | inr b => omega
    · rw [ev, ew] at we
      exact Or.inr ⟨e, Or.inr ⟨we, h⟩⟩
  · rw [ev, ew] at we h
    intro b
    cases b with
    | inl b => omega
    | inr b =>
      cases b.2 with
      | inl b => exact b h
      | inr b => exact we b.1
  · rw [ev, ew] at we h
    exact Or.inr ⟨e, Or.inl h⟩
  · intro b
    cases b with
    | inl b => omega
    | inr b => exact e b.1
theorem fx_rank_4 {post : Int32 → Prop} (H : fx_ok wd ln q m c cs) {rc ro : Nat → Int32} (h1 : ∀ j, j < c → rc j = nI (ft_re wd ln q m j)) {w : Nat} (hw : w < c) (hp : post (nI (ft_cn (fun v => ft_bf (ft_re wd ln q m) ws (ft_pw wd ln) v w) c))) : ∀ d i n, i + d = c → d < n → wX_rankOf_4 post (nI w) lm dc (nI (ft_cd q m)) (nI c) cs ws rc ro n (nI (ft_cn (fun v => ft_bf (ft_re wd ln q m) ws (ft_pw wd ln) v w) i)) (nI i) := by
  have hc := H.2.2.2.2.1
  intro d
  induction d with
  | zero =>
    intro i n hi hn
    obtain ⟨n, rfl⟩ := ft_fuel hn
    have e : i = c := by omega
    subst e
    exact br_t (nI_le (Nat.le_refl i) (by omega)) hp
  | succ d ih =>
    intro i n hi hn
    obtain ⟨n, rfl⟩ := ft_fuel hn
    have I := ih (i + 1) n (by omega) (by omega)
    refine br_f (nI_ge (by omega) (by omega)) (fx_comesBefore H h1 (by omega) hw (fun h => br_f (by decide) (nm_r (nI_1 _) (nm_r (nI_1 i) ?_))) (fun h => br_t rfl (nm_r (nI_1 i) ?_)))
    · rw [ft_cn_t (p := fun v => ft_bf (ft_re wd ln q m) ws (ft_pw wd ln) v w) (n := i) h] at I
      exact I
    · rw [ft_cn_f (p := fun v => ft_bf (ft_re wd ln q m) ws (ft_pw wd ln) v w) (n := i) h] at I
      exact I
theorem fx_rankOf {post : Int32 → Prop} (H : fx_ok wd ln q m c cs) {rc ro : Nat → Int32} (h1 : ∀ j, j < c → rc j = nI (ft_re wd ln q m j)) {w : Nat} (hw : w < c) (hp : post (nI (ft_cn (fun v => ft_bf (ft_re wd ln q m) ws (ft_pw wd ln) v w) c))) : wpX_rankOf post (lm, dc, nI (ft_cd q m), nI c, cs, ws, rc, ro) (nI w) :=
  ⟨c + 1, fx_rank_4 H h1 hw hp c 0 (c + 1) (by omega) (by omega)⟩
/-- word w has rank r -/
def ft_at (wd : Nat → Nat → Nat) (ln q : Nat → Nat) (m c : Nat) (ws : Nat → Int32) (K : Nat) (r : Int32) (w : Nat) : Prop := ft_re wd ln q m w ≤ K ∧ nI (ft_cn (fun v => ft_bf (ft_re wd ln q m) ws (ft_pw wd ln) v w) c) = r
theorem fx_war_6 {post : Int32 → SX → Prop} (H : fx_ok wd ln q m c cs) {K : Nat} (hK : K ≤ 3) {r : Int32} {rc ro : Nat → Int32} (h1 : ∀ j, j < c → rc j = nI (ft_re wd ln q m j)) (hS : ∀ w, w < c → ft_at wd ln q m c ws K r w → (∀ v, v < w → ¬ ft_at wd ln q m c ws K r v) → post (nI w) (nI K, dc, nI (ft_cd q m), nI c, cs, ws, rc, ro)) (hN : (∀ w, w < c → ¬ ft_at wd ln q m c ws K r w) → post (-4) (nI K, dc, nI (ft_cd q m), nI c, cs, ws, rc, ro)) : ∀ d i n, i + d = c → d < n → (∀ v, v < i → ¬ ft_at wd ln q m c ws K r v) → wX_wordAtRank_6 post r (nI K) dc (nI (ft_cd q m)) (nI c) cs ws rc ro n (nI i) := by
  have hc := H.2.2.2.2.1
  intro d
  induction d with
  | zero =>
    intro i n hi hn hv
    obtain ⟨n, rfl⟩ := ft_fuel hn
    have e : i = c := by omega
    subst e
    exact br_t (nI_le (Nat.le_refl i) (by omega)) (hN hv)
  | succ d ih =>
    intro i n hi hn hv
    obtain ⟨n, rfl⟩ := ft_fuel hn
    have vi : vp_in (nI i) 12 := vp_in_nI (by omega) (by decide)
    have ex : rc (nI i).toNatClampNeg = nI (ft_re wd ln q m i) := by rw [nI_clamp (by omega)]; exact h1 i (by omega)
    have ub := fx_re_ub H i
    have I : ¬ ft_at wd ln q m c ws K r i → wX_wordAtRank_6 post r (nI K) dc (nI (ft_cd q m)) (nI c) cs ws rc ro n (nI (i + 1)) := fun h => ih (i + 1) n (by omega) (by omega) (lt_s hv h)
    exact br_f (nI_ge (by omega) (by omega)) ⟨vi, pk_lt K (ft_re wd ln q m i) (fun h => nm_r (nI_1 i) (I (fun z => Nat.lt_irrefl _ (Nat.lt_of_lt_of_le h z.1)))) (fun h => fx_rankOf H h1 (by omega) (br_c (fun e => hS i (by omega) ⟨h, e⟩ hv) (fun e => nm_r (nI_1 i) (I (fun z => e z.2))))) rfl ex (by omega) (by omega)⟩
theorem fx_wordAtRank {post : Int32 → SX → Prop} (H : fx_ok wd ln q m c cs) {K : Nat} (hK : K ≤ 3) {r : Int32} {rc ro : Nat → Int32} (hS : ∀ w, w < c → ft_at wd ln q m c ws K r w → (∀ v, v < w → ¬ ft_at wd ln q m c ws K r v) → ∀ rc ro, (∀ j, j < c → rc j = nI (ft_re wd ln q m j)) → post (nI w) (nI K, dc, nI (ft_cd q m), nI c, cs, ws, rc, ro)) (hN : (∀ w, w < c → ¬ ft_at wd ln q m c ws K r w) → ∀ rc ro, post (-4) (nI K, dc, nI (ft_cd q m), nI c, cs, ws, rc, ro)) : wpX_wordAtRank post (nI K, dc, nI (ft_cd q m), nI c, cs, ws, rc, ro) r :=
  fx_measureReach H (fun rc ro h => ⟨c + 1, fx_war_6 H hK h (fun w a b d => hS w a b d rc ro h) (fun a => hN a rc ro) c 0 (c + 1) (by omega) (by omega) lt_0⟩)
/-! the query as a beginning -/
theorem fx_bwq_4 {post : Int32 → Prop} {ct : Int32} {rc ro : Nat → Int32} {w : Nat → Nat} {L : Nat} (hq : ∀ i, q i < 4) (hw : ∀ i, w i < 4) (hm : m ≤ 6) (hL : L ≤ 6) (hT : ft_bg q m w L → post 1) (hF : ¬ ft_bg q m w L → post 0) : ∀ k j n, j + k = L → k < n → (ft_bg q m w L → m ≤ k) → wX_beginsWithQuery_4 post lm dc (nI (ft_cd q m)) ct cs ws rc ro n (nI (ft_cd w k)) (nI j) := by
  have fin : ∀ k, k ≤ L → (ft_bg q m w L → m ≤ k) → ft_cd w k ≤ ft_cd q m → wX_beginsWithQuery_28 post (nI (ft_cd w k)) lm dc (nI (ft_cd q m)) ct cs ws rc ro := by
    intro k hk hi hle
    refine pk_eq (ft_cd w k) (ft_cd q m) (fun e => hT (ft_cd_bg hq hw hk e).2) (fun e => hF (fun b => ?_)) rfl rfl (fx_b hw (by omega)) (fx_b hq hm)
    have e1 := ft_bg_cd b
    have e2 := hi b
    by_cases e3 : m = k
    · subst e3; exact e e1
    · have := ft_cd_mono w (k := m) (n := k) (by omega)
      omega
  intro k
  induction k with
  | zero =>
    intro j n hj hn hi
    obtain ⟨n, rfl⟩ := ft_fuel hn
    have f := fin 0 (Nat.zero_le L) hi (Nat.zero_le _)
    exact br_c (fun _ => f) (fun _ => br_t (nI_le (a := 0) (Nat.zero_le _) (fx_b hq hm)) f)
  | succ k ih =>
    intro j n hj hn hi
    obtain ⟨n, rfl⟩ := ft_fuel hn
    refine br_f (nI_ge (b := 6) (by omega) (by decide)) (pk_le (ft_cd w (k + 1)) (ft_cd q m) (fun h => fin (k + 1) (by omega) hi h) (fun h => ⟨fx_5, nm_r (fx_d5 hw (by omega)) (nm_r (nI_1 j) (ih (j + 1) n (by omega) (by omega) (fun b => ?_)))⟩) rfl rfl (fx_b hw (by omega)) (fx_b hq hm))
    have e1 := ft_bg_cd b
    have e2 := hi b
    by_cases e3 : m = k + 1
    · subst e3; omega
    · omega
theorem fx_beginsWithQuery {post : Int32 → Prop} {ct : Int32} {rc ro : Nat → Int32} {w : Nat → Nat} {L : Nat} {x : Int32} (hx : x = nI (ft_cd w L)) (hq : ∀ i, q i < 4) (hw : ∀ i, w i < 4) (hm : m ≤ 6) (hL : L ≤ 6) (hT : ft_bg q m w L → post 1) (hF : ¬ ft_bg q m w L → post 0) : wpX_beginsWithQuery post (lm, dc, nI (ft_cd q m), ct, cs, ws, rc, ro) x := by
  subst hx
  exact ⟨L + 1, fx_bwq_4 hq hw hm hL hT hF L 0 (L + 1) (by omega) (by omega) (fun b => b.1)⟩
theorem fx_exact_4 {post : Int32 → Prop} (H : fx_ok wd ln q m c cs) {rc ro : Nat → Int32} (hp : post (nI (ft_cn (fun l => ft_bg q m (wd l) (ln l)) c))) : ∀ d i n, i + d = c → d < n → wX_exact_4 post lm dc (nI (ft_cd q m)) (nI c) cs ws rc ro n (nI (ft_cn (fun l => ft_bg q m (wd l) (ln l)) i)) (nI i) := by
  have hc := H.2.2.2.2.1
  intro d
  induction d with
  | zero =>
    intro i n hi hn
    obtain ⟨n, rfl⟩ := ft_fuel hn
    have e : i = c := by omega
    subst e
    exact br_t (nI_le (Nat.le_refl i) (by omega)) hp
  | succ d ih =>
    intro i n hi hn
    obtain ⟨n, rfl⟩ := ft_fuel hn
    have I := ih (i + 1) n (by omega) (by omega)
    have ex : cs (nI i).toNatClampNeg = nI (ft_cd (wd i) (ln i)) := by rw [nI_clamp (by omega)]; exact H.2.2.2.2.2 i (by omega)
    refine br_f (nI_ge (by omega) (by omega)) ⟨vp_in_nI (by omega) (by decide), fx_beginsWithQuery ex H.1 (H.2.2.1 i) H.2.1 (H.2.2.2.1 i) (fun h => br_f (by decide) (nm_r (nI_1 _) (nm_r (nI_1 i) ?_))) (fun h => br_t rfl (nm_r (nI_1 i) ?_))⟩
    · rw [ft_cn_t (p := fun l => ft_bg q m (wd l) (ln l)) (n := i) h] at I
      exact I
    · rw [ft_cn_f (p := fun l => ft_bg q m (wd l) (ln l)) (n := i) h] at I
      exact I
theorem fx_exact {post : Int32 → Prop} (H : fx_ok wd ln q m c cs) {rc ro : Nat → Int32} (hp : post (nI (ft_cn (fun l => ft_bg q m (wd l) (ln l)) c))) : wpX_exact post (lm, dc, nI (ft_cd q m), nI c, cs, ws, rc, ro) :=
  ⟨c + 1, fx_exact_4 H hp c 0 (c + 1) (by omega) (by omega)⟩
theorem fx_laq_4 {post : Int32 → Prop} {ct : Int32} {rc ro : Nat → Int32} {w : Nat → Nat} {L : Nat} (hq : ∀ i, q i < 4) (hw : ∀ i, w i < 4) (hm : m ≤ 6) (hL : L ≤ 6) (hT : ft_bg q m w L ∧ m < L → post ((1 : Int32) <<< (nI (w m) &&& 31))) (hF : ¬ (ft_bg q m w L ∧ m < L) → post 0) : ∀ k j n, j + k = L → k < n → (ft_bg q m w L ∧ m < L → m < k) → wX_letterAfterQuery_4 post lm dc (nI (ft_cd q m)) ct cs ws rc ro n (nI (ft_cd w k)) (nI j) := by
  intro k
  induction k with
  | zero =>
    intro j n hj hn hi
    obtain ⟨n, rfl⟩ := ft_fuel hn
    have f : post 0 := hF (fun b => absurd (hi b) (by omega))
    exact br_c (fun _ => f) (fun _ => br_t rfl f)
  | succ k ih =>
    intro j n hj hn hi
    obtain ⟨n, rfl⟩ := ft_fuel hn
    refine br_f (nI_ge (b := 6) (by omega) (by decide)) (br_f (fx_n0 hw (by omega)) ⟨fx_5, pk_eq (ft_cd w k) (ft_cd q m) (fun e => ?_) (fun e => ⟨fx_5, nm_r (fx_d5 hw (by omega)) (nm_r (nI_1 j) (ih (j + 1) n (by omega) (by omega) (fun b => ?_)))⟩) (fx_d5 hw (by omega)) rfl (fx_b hw (by omega)) (fx_b hq hm)⟩)
    · obtain ⟨e1, b⟩ := ft_cd_bg hq hw (n := L) (by omega) e
      subst e1
      exact fx_lastLetter hw (by omega) (hT ⟨b, by omega⟩)
    · have e1 := ft_bg_cd b.1
      have e2 := hi b
      by_cases e3 : m = k
      · subst e3; exact absurd e1 e
      · omega
theorem fx_letterAfterQuery {post : Int32 → Prop} {ct : Int32} {rc ro : Nat → Int32} {w : Nat → Nat} {L : Nat} {x : Int32} (hx : x = nI (ft_cd w L)) (hq : ∀ i, q i < 4) (hw : ∀ i, w i < 4) (hm : m ≤ 6) (hL : L ≤ 6) (hT : ft_bg q m w L ∧ m < L → post ((1 : Int32) <<< (nI (w m) &&& 31))) (hF : ¬ (ft_bg q m w L ∧ m < L) → post 0) : wpX_letterAfterQuery post (lm, dc, nI (ft_cd q m), ct, cs, ws, rc, ro) x := by
  subst hx
  exact ⟨L + 1, fx_laq_4 hq hw hm hL hT hF L 0 (L + 1) (by omega) (by omega) (fun b => b.2)⟩
/-- the letters that may follow -/
noncomputable def ft_fo (wd : Nat → Nat → Nat) (ln q : Nat → Nat) (m i : Nat) : Int32 := ft_or (fun l => ft_bg q m (wd l) (ln l) ∧ m < ln l) (fun l => (1 : Int32) <<< (nI (wd l m) &&& 31)) i
theorem fx_continues_4 {post : Int32 → Prop} (H : fx_ok wd ln q m c cs) {rc ro : Nat → Int32} (hp : post (ft_fo wd ln q m c)) : ∀ d i n, i + d = c → d < n → wX_continues_4 post lm dc (nI (ft_cd q m)) (nI c) cs ws rc ro n (ft_fo wd ln q m i) (nI i) := by
  have hc := H.2.2.2.2.1
  intro d
  induction d with
  | zero =>
    intro i n hi hn
    obtain ⟨n, rfl⟩ := ft_fuel hn
    have e : i = c := by omega
    subst e
    exact br_t (nI_le (Nat.le_refl i) (by omega)) hp
  | succ d ih =>
    intro i n hi hn
    obtain ⟨n, rfl⟩ := ft_fuel hn
    have I := ih (i + 1) n (by omega) (by omega)
    have ex : cs (nI i).toNatClampNeg = nI (ft_cd (wd i) (ln i)) := by rw [nI_clamp (by omega)]; exact H.2.2.2.2.2 i (by omega)
    refine br_f (nI_ge (by omega) (by omega)) ⟨vp_in_nI (by omega) (by decide), fx_letterAfterQuery ex H.1 (H.2.2.1 i) H.2.1 (H.2.2.2.1 i) (fun h => nm_r (?_ : _ = ft_fo wd ln q m (i + 1)) (nm_r (nI_1 i) I)) (fun h => nm_r (?_ : _ = ft_fo wd ln q m (i + 1)) (nm_r (nI_1 i) I))⟩
    · unfold ft_fo
      exact (ft_or_t (p := fun l => ft_bg q m (wd l) (ln l) ∧ m < ln l) h).symm
    · unfold ft_fo
      rw [ft_or_f (p := fun l => ft_bg q m (wd l) (ln l) ∧ m < ln l) h]
      exact Int32.or_zero
theorem fx_continues {post : Int32 → Prop} (H : fx_ok wd ln q m c cs) {rc ro : Nat → Int32} (hp : post (ft_fo wd ln q m c)) : wpX_continues post (lm, dc, nI (ft_cd q m), nI c, cs, ws, rc, ro) :=
  ⟨c + 1, fx_continues_4 H hp c 0 (c + 1) (by omega) (by omega)⟩
/-! the draft's word -/
theorem fx_find_2 {post : Int32 → Prop} {qc : Int32} {rc ro : Nat → Int32} {dr : Nat → Nat} {dm : Nat} (hdr : ∀ i, dr i < 4) (hdm : dm ≤ 6) (hwd : ∀ l i, wd l i < 4) (hln : ∀ l, ln l ≤ 6) (hc : c ≤ 12) (hcs : ∀ l, l < 12 → cs l = nI (ft_cd (wd l) (ln l))) (hS : ∀ w, w < c → ft_cd (wd w) (ln w) = ft_cd dr dm → (∀ v, v < w → ¬ ft_cd (wd v) (ln v) = ft_cd dr dm) → post (nI w)) (hN : (∀ w, w < c → ¬ ft_cd (wd w) (ln w) = ft_cd dr dm) → post (-4)) : ∀ d i n, i + d = c → d < n → (∀ v, v < i → ¬ ft_cd (wd v) (ln v) = ft_cd dr dm) → wX_findDraft_2 post lm (nI (ft_cd dr dm)) qc (nI c) cs ws rc ro n (nI i) := by
  intro d
  induction d with
  | zero =>
    intro i n hi hn hv
    obtain ⟨n, rfl⟩ := ft_fuel hn
    have e : i = c := by omega
    subst e
    exact br_t (nI_le (Nat.le_refl i) (by omega)) (hN hv)
  | succ d ih =>
    intro i n hi hn hv
    obtain ⟨n, rfl⟩ := ft_fuel hn
    have ex : cs (nI i).toNatClampNeg = nI (ft_cd (wd i) (ln i)) := by rw [nI_clamp (by omega)]; exact hcs i (by omega)
    exact br_f (nI_ge (by omega) (by omega)) ⟨vp_in_nI (by omega) (by decide), pk_eq (ft_cd (wd i) (ln i)) (ft_cd dr dm) (fun e => hS i (by omega) e hv) (fun e => nm_r (nI_1 i) (ih (i + 1) n (by omega) (by omega) (lt_s hv e))) ex rfl (fx_b (hwd i) (hln i)) (fx_b hdr hdm)⟩
theorem fx_findDraft {post : Int32 → Prop} {qc : Int32} {rc ro : Nat → Int32} {dr : Nat → Nat} {dm : Nat} (hdr : ∀ i, dr i < 4) (hdm : dm ≤ 6) (hwd : ∀ l i, wd l i < 4) (hln : ∀ l, ln l ≤ 6) (hc : c ≤ 12) (hcs : ∀ l, l < 12 → cs l = nI (ft_cd (wd l) (ln l))) (hS : ∀ w, w < c → ft_cd (wd w) (ln w) = ft_cd dr dm → (∀ v, v < w → ¬ ft_cd (wd v) (ln v) = ft_cd dr dm) → post (nI w)) (hN : (∀ w, w < c → ¬ ft_cd (wd w) (ln w) = ft_cd dr dm) → post (-4)) : wpX_findDraft post (lm, nI (ft_cd dr dm), qc, nI c, cs, ws, rc, ro) :=
  ⟨c + 1, fx_find_2 hdr hdm hwd hln hc hcs hS hN c 0 (c + 1) (by omega) (by omega) lt_0⟩
end
end
section
/-! the reference: lists as slices of one array -/
def ft_sl (g : Nat → Nat) (l i : Nat) : Nat := g (6 * l + i)
def fy_ok (g h : Nat → Nat) (la le : Nat → Int32) : Prop := (∀ j, g j < 4) ∧ (∀ j, h j ≤ 6) ∧ (∀ j, la j = nI (g j)) ∧ ∀ j, le j = nI (h j)
def ft_up (g : Nat → Nat) (k x j : Nat) : Nat := if j = k then x else g j
def ft_cp (g : Nat → Nat) (a b n j : Nat) : Nat := if 6 * b ≤ j ∧ j < 6 * b + n then g (6 * a + (j - 6 * b)) else g j
theorem fy_ix (l i : Nat) : (6 : Int32) * nI l + nI i = nI (6 * l + i) := by
  rw [← nI_add, ← pk_mul]; rfl
theorem fy_ix7 (i j : Nat) : nI i * (7 : Int32) + nI j = nI (i * 7 + j) := by
  rw [← nI_add, ← pk_mul]; rfl
section
variable {g h : Nat → Nat} {la le ws tb : Nat → Int32} {lm ct : Int32}
theorem fy_sl4 (H : fy_ok g h la le) (l i : Nat) : ft_sl g l i < 4 := H.1 _
theorem fy_le (H : fy_ok g h la le) {l : Nat} (hl : l < 14) : le (nI l).toNatClampNeg = nI (h l) := by
  rw [nI_clamp (by omega)]; exact H.2.2.2 l
theorem fy_la (H : fy_ok g h la le) {l i : Nat} (hl : l < 14) (hi : i < 6) : la ((6 : Int32) * nI l + nI i).toNatClampNeg = nI (ft_sl g l i) := by
  rw [fy_ix, nI_clamp (by omega)]; exact H.2.2.1 _
theorem fy_vi {l i : Nat} (hl : l < 14) (hi : i < 6) : vp_in ((6 : Int32) * nI l + nI i) 84 := by
  rw [fy_ix]; exact vp_in_nI (by omega) (by decide)
theorem fy_begins_19 {post : Int32 → Prop} (H : fy_ok g h la le) {a b : Nat} (ha : a < 14) (hb : b < 14) (hab : h a ≤ h b) (hT : ft_bg (ft_sl g a) (h a) (ft_sl g b) (h b) → post 1) (hF : ¬ ft_bg (ft_sl g a) (h a) (ft_sl g b) (h b) → post 0) : ∀ d i n, i + d = h a → d < n → (∀ j, j < i → ft_sl g a j = ft_sl g b j) → wY_begins_19 post (nI a) (nI b) lm ct la le ws tb n (nI i) := by
  have h6 := H.2.1 a
  intro d
  induction d with
  | zero =>
    intro i n hi hn hj
    obtain ⟨n, rfl⟩ := ft_fuel hn
    have e : i = h a := by omega
    exact ⟨vp_in_nI ha (by decide), pk_le (h a) i (fun _ => hT ⟨hab, fun j q => hj j (by omega)⟩) (fun z => absurd z (by omega)) (fy_le H ha) rfl (by omega) (by omega)⟩
  | succ d ih =>
    intro i n hi hn hj
    obtain ⟨n, rfl⟩ := ft_fuel hn
    have b1 := fy_sl4 H a i
    have b2 := fy_sl4 H b i
    exact ⟨vp_in_nI ha (by decide), pk_le (h a) i (fun z => absurd z (by omega)) (fun _ => ⟨fy_vi ha (by omega), fy_vi hb (by omega), pk_eq (ft_sl g a i) (ft_sl g b i) (fun e => nm_r (nI_1 i) (ih (i + 1) n (by omega) (by omega) (lt_s hj e))) (fun e => hF (fun z => e (z.2 i (by omega)))) (fy_la H ha (by omega)) (fy_la H hb (by omega)) (by omega) (by omega)⟩) (fy_le H ha) rfl (by omega) (by omega)⟩
theorem fy_begins {post : Int32 → Prop} (H : fy_ok g h la le) {x y : Int32} (a b : Nat) (ha : a < 14) (hb : b < 14) (hx : x = nI a) (hy : y = nI b) (hT : ft_bg (ft_sl g a) (h a) (ft_sl g b) (h b) → post 1) (hF : ¬ ft_bg (ft_sl g a) (h a) (ft_sl g b) (h b) → post 0) : wpY_begins post (lm, ct, la, le, ws, tb) x y := by
  subst hx hy
  have h6 := H.2.1 a
  have h7 := H.2.1 b
  exact ⟨vp_in_nI ha (by decide), vp_in_nI hb (by decide), pk_le (h a) (h b) (fun q => ⟨h a + 1, fy_begins_19 H ha hb q hT hF (h a) 0 (h a + 1) (by omega) (by omega) lt_0⟩) (fun q => hF (fun z => absurd z.1 (by omega))) (fy_le H ha) (fy_le H hb) (by omega) (by omega)⟩
theorem fy_draft_2 {post : Int32 → Prop} (H : fy_ok g h la le) {c : Nat} (hc : c ≤ 12) (hS : ∀ w, w < c → ft_cd (ft_sl g w) (h w) = ft_cd (ft_sl g 12) (h 12) → (∀ v, v < w → ¬ ft_cd (ft_sl g v) (h v) = ft_cd (ft_sl g 12) (h 12)) → post (nI w)) (hN : (∀ w, w < c → ¬ ft_cd (ft_sl g w) (h w) = ft_cd (ft_sl g 12) (h 12)) → post (-4)) : ∀ d i n, i + d = c → d < n → (∀ v, v < i → ¬ ft_cd (ft_sl g v) (h v) = ft_cd (ft_sl g 12) (h 12)) → wY_drafted_2 post lm (nI c) la le ws tb n (nI i) := by
  intro d
  induction d with
  | zero =>
    intro i n hi hn hv
    obtain ⟨n, rfl⟩ := ft_fuel hn
    have e : i = c := by omega
    subst e
    exact br_t (nI_le (Nat.le_refl i) (by omega)) (hN hv)
  | succ d ih =>
    intro i n hi hn hv
    obtain ⟨n, rfl⟩ := ft_fuel hn
    have h6 := H.2.1 i
    have h7 := H.2.1 12
    have I : ¬ ft_cd (ft_sl g i) (h i) = ft_cd (ft_sl g 12) (h 12) → wY_drafted_2 post lm (nI c) la le ws tb n (nI (i + 1)) := fun e => ih (i + 1) n (by omega) (by omega) (lt_s hv e)
    refine br_f (nI_ge (by omega) (by omega)) ⟨vp_in_nI (by omega) (by decide), pk_eq (h i) (h 12) (fun e => fy_begins H i 12 (by omega) (by decide) rfl rfl (fun b => br_f (by decide) (hS i (by omega) ?_ hv)) (fun b => br_t rfl (nm_r (nI_1 i) (I (fun z => b ?_))))) (fun e => nm_r (nI_1 i) (I (fun z => e (ft_cd_inj (fy_sl4 H i) (fy_sl4 H 12) _ _ z).1))) (fy_le H (by omega)) (H.2.2.2 12) (by omega) (by omega)⟩
    · have := ft_bg_cd b
      rw [← this, e]
    · exact ⟨Nat.le_of_eq e, (ft_cd_inj (fy_sl4 H i) (fy_sl4 H 12) _ _ z).2⟩
theorem fy_drafted {post : Int32 → Prop} (H : fy_ok g h la le) {c : Nat} (hc : c ≤ 12) (hS : ∀ w, w < c → ft_cd (ft_sl g w) (h w) = ft_cd (ft_sl g 12) (h 12) → (∀ v, v < w → ¬ ft_cd (ft_sl g v) (h v) = ft_cd (ft_sl g 12) (h 12)) → post (nI w)) (hN : (∀ w, w < c → ¬ ft_cd (ft_sl g w) (h w) = ft_cd (ft_sl g 12) (h 12)) → post (-4)) : wpY_drafted post (lm, nI c, la, le, ws, tb) :=
  ⟨c + 1, fy_draft_2 H hc hS hN c 0 (c + 1) (by omega) (by omega) lt_0⟩
theorem fy_copy_2 {post : SY → Prop} (H : fy_ok g h la le) {a b : Nat} (ha : a < 14) (hb : b < 14) (hpost : ∀ la', (∀ j, la' j = nI (ft_cp g a b (h a) j)) → post (lm, ct, la', upd le b (nI (h a)), ws, tb)) : ∀ d i n la', i + d = h a → d < n → (∀ j, la' j = nI (ft_cp g a b i j)) → wY_copy_2 post (nI a) (nI b) lm ct n (nI i) la' le ws tb := by
  have h6 := H.2.1 a
  intro d
  induction d with
  | zero =>
    intro i n la' hi hn hj
    obtain ⟨n, rfl⟩ := ft_fuel hn
    have e : i = h a := by omega
    subst e
    refine ⟨vp_in_nI ha (by decide), pk_le (h a) (h a) (fun _ => ⟨vp_in_nI ha (by decide), vp_in_nI hb (by decide), nm_r (?_ : _ = upd le b (nI (h a))) (hpost la' hj)⟩) (fun z => absurd z (by omega)) (fy_le H ha) rfl (by omega) (by omega)⟩
    rw [fy_le H ha, nI_clamp (by omega)]
  | succ d ih =>
    intro i n la' hi hn hj
    obtain ⟨n, rfl⟩ := ft_fuel hn
    refine ⟨vp_in_nI ha (by decide), pk_le (h a) i (fun z => absurd z (by omega)) (fun _ => ⟨fy_vi ha (by omega), fy_vi hb (by omega), nm_e (nm_r (nI_1 i) (ih (i + 1) n _ (by omega) (by omega) (fun j => ?_)))⟩) (fy_le H ha) rfl (by omega) (by omega)⟩
    have e1 : la' ((6 : Int32) * nI a + nI i).toNatClampNeg = nI (g (6 * a + i)) := by
      rw [fy_ix, nI_clamp (by omega), hj]
      unfold ft_cp
      rw [if_neg (by omega)]
    have e2 : ((6 : Int32) * nI b + nI i).toNatClampNeg = 6 * b + i := by rw [fy_ix, nI_clamp (by omega)]
    rw [e1, e2]
    by_cases q : j = 6 * b + i
    · subst q
      rw [pk_us]
      unfold ft_cp
      rw [if_pos (by omega), show 6 * b + i - 6 * b = i by omega]
    · rw [pk_un q, hj]
      unfold ft_cp
      by_cases r : 6 * b ≤ j ∧ j < 6 * b + i
      · rw [if_pos r, if_pos (by omega)]
      · rw [if_neg r, if_neg (by omega)]
theorem fy_cp0 (a b j : Nat) : ft_cp g a b 0 j = g j := if_neg (by omega)
theorem fy_copy {post : SY → Prop} (H : fy_ok g h la le) {x y : Int32} (a b : Nat) (ha : a < 14) (hb : b < 14) (hx : x = nI a) (hy : y = nI b) (hpost : ∀ la', (∀ j, la' j = nI (ft_cp g a b (h a) j)) → post (lm, ct, la', upd le b (nI (h a)), ws, tb)) : wpY_copy post (lm, ct, la, le, ws, tb) x y := by
  subst hx hy
  exact ⟨h a + 1, fy_copy_2 H ha hb hpost (h a) 0 (h a + 1) la (by omega) (by omega) (fun j => by rw [fy_cp0]; exact H.2.2.1 j)⟩
theorem fy_append {post : Int32 → SY → Prop} (H : fy_ok g h la le) {x y : Int32} (l : Nat) (hl : l < 14) (hx : x = nI l) (h1 : y < 0 → post (-1) (lm, ct, la, le, ws, tb)) (h2 : ¬ y < 0 → ¬ y ≤ 3 → post (-1) (lm, ct, la, le, ws, tb)) (h3 : ¬ y < 0 → y ≤ 3 → h l = 6 → post (-2) (lm, ct, la, le, ws, tb)) (h4 : ¬ y < 0 → y ≤ 3 → h l < 6 → ∀ k la' le', y = nI k → k < 4 → (∀ j, la' j = nI (ft_up g (6 * l + h l) k j)) → (∀ j, le' j = nI (ft_up h l (h l + 1) j)) → post (nI (h l + 1)) (lm, ct, la', le', ws, tb)) : wpY_append post (lm, ct, la, le, ws, tb) x y := by
  subst hx
  have h6 := H.2.1 l
  refine br_c h1 (fun n0 => br_c (fun n3 => ⟨vp_in_nI hl (by decide), pk_eq (h l) 6 (fun e => h3 n0 n3 e) (fun e => ?_) (fy_le H hl) rfl (by omega) (by omega)⟩) (h2 n0))
  have vl : vp_in (nI l) 14 := vp_in_nI hl (by decide)
  obtain ⟨k, hk, ek⟩ := nI_of2 (M := 3) (n := 3) (by decide) n0 n3
  have e6 : (6 : Int32) * nI l + le (nI l).toNatClampNeg = nI (6 * l + h l) := by rw [fy_le H hl, fy_ix]
  refine ⟨vl, by rw [e6]; exact vp_in_nI (by omega) (by decide), nm_e ⟨vl, vl, nm_r (?_ : _ = upd le l (nI (h l + 1))) ⟨vl, ?_⟩⟩⟩
  · rw [fy_le H hl, nI_clamp (by omega), nI_1]
  · rw [nI_clamp (by omega), pk_us]
    refine h4 n0 n3 (by omega) k _ _ ek (by omega) (fun j => ?_) (fun j => ?_)
    · rw [H.2.2.2 l, fy_ix, nI_clamp (by omega)]
      unfold ft_up
      by_cases q : j = 6 * l + h l
      · subst q; rw [pk_us, if_pos rfl, ek]
      · rw [pk_un q, if_neg q]; exact H.2.2.1 j
    · unfold ft_up
      by_cases q : j = l
      · subst q; rw [pk_us, if_pos rfl]
      · rw [pk_un q, if_neg q]; exact H.2.2.2 j
theorem fy_least {post : Int32 → Prop} {x y : Int32} (a b : Nat) (hx : x = nI a) (hy : y = nI b) (ha : a < 1000) (hb : b < 1000) (hp : post (nI (min a b))) : wpY_least post (lm, ct, la, le, ws, tb) x y := by
  subst hx hy
  refine pk_le b a (fun q => ?_) (fun q => ?_) rfl rfl (by omega) (by omega)
  · rw [Nat.min_eq_right q] at hp; exact hp
  · rw [Nat.min_eq_left (Nat.le_of_lt q)] at hp; exact hp
theorem fy_before_84 {post : Int32 → Prop} (H : fy_ok g h la le) {a b : Nat} (ha : a < 14) (hb : b < 14) (hT : h a < h b → post 1) (hF : ¬ h a < h b → post 0) : wY_before_84 post (nI a) (nI b) lm ct la le ws tb := by
  have h6 := H.2.1 a
  have h7 := H.2.1 b
  exact ⟨vp_in_nI ha (by decide), vp_in_nI hb (by decide), pk_le (h b) (h a) (fun q => hF (by omega)) hT (fy_le H hb) (fy_le H ha) (by omega) (by omega)⟩
theorem fy_before_2 {post : Int32 → Prop} (H : fy_ok g h la le) {a b : Nat} (ha : a < 14) (hb : b < 14) (hT : ft_pl (ft_sl g a) (h a) < ft_pl (ft_sl g b) (h b) → post 1) (hF : ¬ ft_pl (ft_sl g a) (h a) < ft_pl (ft_sl g b) (h b) → post 0) : ∀ d i n, i + d = min (h a) (h b) → d < n → (∀ j, j < i → ft_sl g a j = ft_sl g b j) → wY_before_2 post (nI a) (nI b) lm ct la le ws tb n (nI i) := by
  have h6 := H.2.1 a
  have h7 := H.2.1 b
  intro d
  induction d with
  | zero =>
    intro i n hi hn hj
    obtain ⟨n, rfl⟩ := ft_fuel hn
    have E := ft_pl_end (fy_sl4 H a) (fy_sl4 H b) (m := h a) (n := h b) (i := i) h6 h7 hj (by omega)
    have f : wY_before_84 post (nI a) (nI b) lm ct la le ws tb := fy_before_84 H ha hb (fun q => hT (E.mpr q)) (fun q => hF (fun z => q (E.mp z)))
    exact ⟨vp_in_nI ha (by decide), pk_le (h a) i (fun _ => f) (fun z => ⟨vp_in_nI hb (by decide), pk_le (h b) i (fun _ => f) (fun z => absurd z (by omega)) (fy_le H hb) rfl (by omega) (by omega)⟩) (fy_le H ha) rfl (by omega) (by omega)⟩
  | succ d ih =>
    intro i n hi hn hj
    obtain ⟨n, rfl⟩ := ft_fuel hn
    have b1 := fy_sl4 H a i
    have b2 := fy_sl4 H b i
    have ia : i < h a := by omega
    have ib : i < h b := by omega
    refine ⟨vp_in_nI ha (by decide), pk_le (h a) i (fun z => absurd z (by omega)) (fun _ => ⟨vp_in_nI hb (by decide), pk_le (h b) i (fun z => absurd z (by omega)) (fun _ => ⟨fy_vi ha (by omega), fy_vi hb (by omega), pk_eq (ft_sl g a i) (ft_sl g b i) (fun e => nm_r (nI_1 i) (ih (i + 1) n (by omega) (by omega) (lt_s hj e))) (fun e => ⟨fy_vi ha (by omega), fy_vi hb (by omega), ?_⟩) (fy_la H ha (by omega)) (fy_la H hb (by omega)) (by omega) (by omega)⟩) (fy_le H hb) rfl (by omega) (by omega)⟩) (fy_le H ha) rfl (by omega) (by omega)⟩
    have E := ft_pl_dif (fy_sl4 H a) (fy_sl4 H b) (m := h a) (n := h b) (i := i) h6 ia ib hj e
    exact pk_le (ft_sl g b i) (ft_sl g a i) (fun q => hF (fun z => absurd (E.mp z) (by omega))) (fun q => hT (E.mpr q)) (fy_la H hb (by omega)) (fy_la H ha (by omega)) (by omega) (by omega)
theorem fy_before {post : Int32 → Prop} (H : fy_ok g h la le) {a b : Nat} (ha : a < 14) (hb : b < 14) (hT : ft_pl (ft_sl g a) (h a) < ft_pl (ft_sl g b) (h b) → post 1) (hF : ¬ ft_pl (ft_sl g a) (h a) < ft_pl (ft_sl g b) (h b) → post 0) : wpY_before post (lm, ct, la, le, ws, tb) (nI a) (nI b) :=
  ⟨min (h a) (h b) + 1, fy_before_2 H ha hb hT hF (min (h a) (h b)) 0 _ (by omega) (by omega) lt_0⟩
end
end
section
def fy_T (D : Nat → Nat → Nat) (L : Nat) (tb : Nat → Int32) (i j : Nat) : Prop := ∀ a b, (a < i ∧ b ≤ L ∨ a = i ∧ b < j) → tb (a * 7 + b) = nI (D a b)
theorem fy_Tup {D : Nat → Nat → Nat} {L : Nat} {tb : Nat → Int32} {i : Nat} (h : fy_T D L tb i (L + 1)) : fy_T D L tb (i + 1) 0 := fun a b q => h a b (by omega)
theorem fy_Tput {D : Nat → Nat → Nat} {L : Nat} (hL : L ≤ 6) {tb : Nat → Int32} {i j : Nat} (hj : j ≤ L) (h : fy_T D L tb i j) : fy_T D L (upd tb (i * 7 + j) (nI (D i j))) i (j + 1) := by
  intro a b q
  by_cases e : a * 7 + b = i * 7 + j
  · have e1 : a = i := by omega
    have e2 : b = j := by omega
    subst e1 e2
    exact pk_us
  · rw [pk_un e]
    exact h a b (by omega)
theorem fy_pre {i j : Nat} : nI (i + 1) * (7 : Int32) + nI (j + 1) - 1 = nI ((i + 1) * 7 + j) := by
  rw [fy_ix7, ← Nat.add_assoc, nI_pred]
theorem fy_dia {i j : Nat} : (nI (i + 1) - 1) * (7 : Int32) + nI (j + 1) - 1 = nI (i * 7 + j) := by
  rw [nI_pred, fy_ix7, ← Nat.add_assoc, nI_pred]
theorem fy_abo {i j : Nat} : (nI (i + 1) - 1) * (7 : Int32) + nI (j + 1) = nI (i * 7 + (j + 1)) := by
  rw [nI_pred, fy_ix7]
theorem fy_q78 {i : Nat} : (78 : Int32) + nI (i + 1) - 1 = nI (78 + i) := by
  have e : (78 : Int32) = nI 78 := rfl
  rw [e, nI_add, ← Nat.add_assoc, nI_pred]
theorem fy_w6 {l j : Nat} : (6 : Int32) * nI l + nI (j + 1) - 1 = nI (6 * l + j) := by
  rw [fy_ix, ← Nat.add_assoc, nI_pred]
section
variable {g h : Nat → Nat} {la le ws : Nat → Int32} {lm ct : Int32}
theorem fy_fill_15 {post : SY → Prop} {J2 : Int32 → (Nat → Int32) → (Nat → Int32) → (Nat → Int32) → (Nat → Int32) → Prop} (H : fy_ok g h la le) {l i : Nat} (hl : l < 14) (hi6 : i ≤ 6) (hJ : ∀ tb, fy_T (ft_D (ft_sl g 13) (ft_sl g l)) (h l) tb i (h l + 1) → J2 (nI (i + 1)) la le ws tb) : ∀ d j n tb, j + d = h l + 1 → d < n → fy_T (ft_D (ft_sl g 13) (ft_sl g l)) (h l) tb i j → wY_fill_15 post J2 (nI l) (nI i) lm ct n (nI j) la le ws tb := by
  have h6 := H.2.1 l
  intro d
  induction d with
  | zero =>
    intro j n tb hj hn hT
    obtain ⟨n, rfl⟩ := ft_fuel hn
    have e : j = h l + 1 := by omega
    subst e
    exact ⟨vp_in_nI hl (by decide), pk_lt (h l) (h l + 1) (fun _ => nm_r (nI_1 i) (hJ tb hT)) (fun z => absurd z (by omega)) (fy_le H hl) rfl (by omega) (by omega)⟩
  | succ d ih =>
    intro j n tb hj hn hT
    obtain ⟨n, rfl⟩ := ft_fuel hn
    have s151 : wY_fill_151 post J2 (wY_fill_15 post J2 (nI l) (nI i) lm ct n) (nI l) (nI i) (nI j) (nI (ft_D (ft_sl g 13) (ft_sl g l) i j)) lm ct la le ws tb := by
      refine ⟨by rw [fy_ix7]; exact vp_in_nI (by omega) (by decide), nm_e (nm_r (nI_1 j) (ih (j + 1) n _ (by omega) (by omega) ?_))⟩
      rw [fy_ix7, nI_clamp (by omega)]
      exact fy_Tput h6 (by omega) hT
    refine ⟨vp_in_nI hl (by decide), pk_lt (h l) j (fun z => absurd z (by omega)) (fun _ => ?_) (fy_le H hl) rfl (by omega) (by omega)⟩
    cases i with
    | zero =>
      rw [ft_D_0] at s151
      exact br_t rfl (br_t (nI_le (a := 0) (b := 0) (by decide) (by decide)) s151)
    | succ i =>
      refine br_f (nI_ne0 (by omega) (by omega)) ?_
      cases j with
      | zero =>
        rw [ft_D_n] at s151
        exact br_t rfl (br_f (nI_nle (by omega) (by omega)) (br_t (nI_le (a := 0) (b := 0) (by decide) (by decide)) s151))
      | succ j =>
        refine br_f (nI_ne0 (by omega) (by omega)) (br_f (nI_nle (by omega) (by omega)) (br_f (nI_nle (by omega) (by omega)) ⟨?_, ?_, ?_⟩))
        · rw [fy_q78]; exact vp_in_nI (by omega) (by decide)
        · rw [fy_w6]; exact vp_in_nI (by omega) (by decide)
        · have u1 := ft_D_ub (ft_sl g 13) (ft_sl g l) i j
          have u2 := ft_D_ub (ft_sl g 13) (ft_sl g l) i (j + 1)
          have u3 := ft_D_ub (ft_sl g 13) (ft_sl g l) (i + 1) j
          have un := ft_ne_le (ft_sl g 13 i) (ft_sl g l j)
          have b1 := fy_sl4 H 13 i
          have b2 := fy_sl4 H l j
          have s85 : wY_fill_85 post J2 (wY_fill_15 post J2 (nI l) (nI (i + 1)) lm ct n) (nI l) (nI (i + 1)) (nI (j + 1)) (nI (ft_ne (ft_sl g 13 i) (ft_sl g l j))) lm ct la le ws tb := by
            have e1 : tb (((nI (i + 1) - 1) * (7 : Int32) + nI (j + 1) - 1)).toNatClampNeg + nI (ft_ne (ft_sl g 13 i) (ft_sl g l j)) = nI (ft_D (ft_sl g 13) (ft_sl g l) i j + ft_ne (ft_sl g 13 i) (ft_sl g l j)) := by
              rw [fy_dia, nI_clamp (by omega), hT i j (by omega), nI_add]
            have e2 : tb (((nI (i + 1) - 1) * (7 : Int32) + nI (j + 1))).toNatClampNeg = nI (ft_D (ft_sl g 13) (ft_sl g l) i (j + 1)) := by
              rw [fy_abo, nI_clamp (by omega), hT i (j + 1) (by omega)]
            have e3 : tb ((nI (i + 1) * (7 : Int32) + nI (j + 1) - 1)).toNatClampNeg = nI (ft_D (ft_sl g 13) (ft_sl g l) (i + 1) j) := by
              rw [fy_pre, nI_clamp (by omega), hT (i + 1) j (by omega)]
            rw [ft_D_s] at s151
            exact ⟨by rw [fy_dia]; exact vp_in_nI (by omega) (by decide), nm_r e1 ⟨by rw [fy_abo]; exact vp_in_nI (by omega) (by decide), by rw [fy_pre]; exact vp_in_nI (by omega) (by decide), fy_least _ _ e2 e3 (by omega) (by omega) (nm_r (nI_1 _) (fy_least _ _ rfl rfl (by omega) (by omega) s151))⟩⟩
          have ea : la ((78 : Int32) + nI (i + 1) - 1).toNatClampNeg = nI (ft_sl g 13 i) := by
            rw [fy_q78, nI_clamp (by omega)]; exact H.2.2.1 _
          have eb : la ((6 : Int32) * nI l + nI (j + 1) - 1).toNatClampNeg = nI (ft_sl g l j) := by
            rw [fy_w6, nI_clamp (by omega)]; exact H.2.2.1 _
          refine pk_eq (ft_sl g 13 i) (ft_sl g l j) (fun e => ?_) (fun e => ?_) ea eb (by omega) (by omega)
          · have en : ft_ne (ft_sl g 13 i) (ft_sl g l j) = 0 := if_pos e
            rw [en] at s85
            exact s85
          · have en : ft_ne (ft_sl g 13 i) (ft_sl g l j) = 1 := if_neg e
            rw [en] at s85
            exact s85
theorem fy_fill_2 {post : SY → Prop} (H : fy_ok g h la le) {l : Nat} (hl : l < 14) (hpost : ∀ tb, fy_T (ft_D (ft_sl g 13) (ft_sl g l)) (h l) tb (h 13 + 1) 0 → post (lm, ct, la, le, ws, tb)) : ∀ d i n tb, i + d = h 13 + 1 → d < n → fy_T (ft_D (ft_sl g 13) (ft_sl g l)) (h l) tb i 0 → wY_fill_2 post (nI l) lm ct n (nI i) la le ws tb := by
  have h6 := H.2.1 13
  have h7 := H.2.1 l
  intro d
  induction d with
  | zero =>
    intro i n tb hi hn hT
    obtain ⟨n, rfl⟩ := ft_fuel hn
    have e : i = h 13 + 1 := by omega
    subst e
    exact pk_lt (h 13) (h 13 + 1) (fun _ => hpost tb hT) (fun z => absurd z (by omega)) (H.2.2.2 13) rfl (by omega) (by omega)
  | succ d ih =>
    intro i n tb hi hn hT
    obtain ⟨n, rfl⟩ := ft_fuel hn
    exact pk_lt (h 13) i (fun z => absurd z (by omega)) (fun _ => ⟨h l + 2, fy_fill_15 H hl (by omega) (fun tb' hT' => ih (i + 1) n tb' (by omega) (by omega) (fy_Tup hT')) (h l + 1) 0 (h l + 2) tb (by omega) (by omega) hT⟩) (H.2.2.2 13) rfl (by omega) (by omega)
theorem fy_fill {post : SY → Prop} (H : fy_ok g h la le) {x : Int32} (l : Nat) (hl : l < 14) (hx : x = nI l) {tb : Nat → Int32} (hpost : ∀ tb, fy_T (ft_D (ft_sl g 13) (ft_sl g l)) (h l) tb (h 13 + 1) 0 → post (lm, ct, la, le, ws, tb)) : wpY_fill post (lm, ct, la, le, ws, tb) x := by
  subst hx
  exact ⟨h 13 + 2, fy_fill_2 H hl hpost (h 13 + 1) 0 (h 13 + 2) tb (by omega) (by omega) (fun a b q => absurd q (by omega))⟩
theorem fy_reach_10 {post : Int32 → SY → Prop} (H : fy_ok g h la le) {l : Nat} (hl : l < 14) {tb : Nat → Int32} (hT : fy_T (ft_D (ft_sl g 13) (ft_sl g l)) (h l) tb (h 13 + 1) 0) (hpost : post (nI (ft_re (ft_sl g) h (ft_sl g 13) (h 13) l)) (lm, ct, la, le, ws, tb)) : ∀ d j n, j + d = h l + 1 → d < n → wY_reach_10 post (nI l) lm ct la le ws tb n (nI (ft_bs (ft_D (ft_sl g 13) (ft_sl g l) (h 13)) j)) (nI j) := by
  have h6 := H.2.1 13
  have h7 := H.2.1 l
  intro d
  induction d with
  | zero =>
    intro j n hj hn
    obtain ⟨n, rfl⟩ := ft_fuel hn
    have e : j = h l + 1 := by omega
    subst e
    refine ⟨vp_in_nI hl (by decide), pk_lt (h l) (h l + 1) (fun _ => ?_) (fun z => absurd z (by omega)) (fy_le H hl) rfl (by omega) (by omega)⟩
    rw [ft_reach _ h6]
    exact hpost
  | succ d ih =>
    intro j n hj hn
    obtain ⟨n, rfl⟩ := ft_fuel hn
    have u1 := ft_D_ub (ft_sl g 13) (ft_sl g l) (h 13) j
    have u2 := ft_bs_9 (ft_D (ft_sl g 13) (ft_sl g l) (h 13)) j
    have ei : le 13 * (7 : Int32) + nI j = nI (h 13 * 7 + j) := by rw [H.2.2.2 13, fy_ix7]
    have e : tb (le 13 * (7 : Int32) + nI j).toNatClampNeg = nI (ft_D (ft_sl g 13) (ft_sl g l) (h 13) j) := by
      rw [ei, nI_clamp (by omega)]; exact hT _ _ (by omega)
    exact ⟨vp_in_nI hl (by decide), pk_lt (h l) j (fun z => absurd z (by omega)) (fun _ => ⟨by rw [ei]; exact vp_in_nI (by omega) (by decide), fy_least _ _ rfl e (by omega) (by omega) (nm_r (nI_1 j) (ih (j + 1) n (by omega) (by omega)))⟩) (fy_le H hl) rfl (by omega) (by omega)⟩
theorem fy_reach {post : Int32 → SY → Prop} (H : fy_ok g h la le) {l : Nat} (hl : l < 14) {tb : Nat → Int32} (hpost : ∀ tb, post (nI (ft_re (ft_sl g) h (ft_sl g 13) (h 13) l)) (lm, ct, la, le, ws, tb)) : wpY_reach post (lm, ct, la, le, ws, tb) (nI l) :=
  fy_fill H l hl rfl (fun tb hT => ⟨h l + 2, fy_reach_10 H hl hT (hpost tb) (h l + 1) 0 (h l + 2) (by omega) (by omega)⟩)
end
end
section
section
variable {g h : Nat → Nat} {la le ws : Nat → Int32} {lm ct : Int32} {K c : Nat}
theorem fy_re_ub (H : fy_ok g h la le) (l : Nat) : ft_re (ft_sl g) h (ft_sl g 13) (h 13) l ≤ 12 := by
  have a := ft_R_ub (z := 0) (by decide) (ft_sl g 13) (h 13) (ft_sl g l) (h l) (h l) (h 13)
  have b := H.2.1 l
  have d := H.2.1 13
  unfold ft_re
  omega
theorem fy_isOffered {post : Int32 → SY → Prop} (H : fy_ok g h la le) (hK : K ≤ 3) {l : Nat} (hl : l < 14) {tb : Nat → Int32} (hT : ft_re (ft_sl g) h (ft_sl g 13) (h 13) l ≤ K → ∀ tb, post 1 (nI K, ct, la, le, ws, tb)) (hF : ¬ ft_re (ft_sl g) h (ft_sl g 13) (h 13) l ≤ K → ∀ tb, post 0 (nI K, ct, la, le, ws, tb)) : wpY_isOffered post (nI K, ct, la, le, ws, tb) (nI l) := by
  have ub := fy_re_ub H l
  exact fy_reach H hl (fun tb => pk_lt K _ (fun q => hF (by omega) tb) (fun q => hT q tb) rfl rfl (by omega) (by omega))
theorem fy_ranksBefore {post : Int32 → SY → Prop} (H : fy_ok g h la le) {v w : Nat} (hv : v < 12) (hw : w < 12) {tb : Nat → Int32} (hT : ft_bf (ft_re (ft_sl g) h (ft_sl g 13) (h 13)) ws (ft_pw (ft_sl g) h) v w → ∀ tb, post 1 (lm, ct, la, le, ws, tb)) (hF : ¬ ft_bf (ft_re (ft_sl g) h (ft_sl g 13) (h 13)) ws (ft_pw (ft_sl g) h) v w → ∀ tb, post 0 (lm, ct, la, le, ws, tb)) : wpY_ranksBefore post (lm, ct, la, le, ws, tb) (nI v) (nI w) := by
  have uv := fy_re_ub H v
  have uw := fy_re_ub H w
  have vi : vp_in (nI v) 12 := vp_in_nI (by omega) (by decide)
  have wi : vp_in (nI w) 12 := vp_in_nI (by omega) (by decide)
  have ev : (nI v).toNatClampNeg = v := nI_clamp (by omega)
  have ew : (nI w).toNatClampNeg = w := nI_clamp (by omega)
  refine fy_reach H (by omega) (fun tb => fy_reach H (by omega) (fun tb => pk_eq (ft_re (ft_sl g) h (ft_sl g 13) (h 13) v) (ft_re (ft_sl g) h (ft_sl g 13) (h 13) w) (fun e => ⟨vi, wi, br_c (fun we => fy_before H (by omega) (by omega) (fun q => ⟨rfl, hT ?_ tb⟩) (fun q => ⟨rfl, hF ?_ tb⟩)) (fun we => ⟨vi, wi, br_c (fun q => hF ?_ tb) (fun q => hT ?_ tb)⟩)⟩) (fun e => pk_le (ft_re (ft_sl g) h (ft_sl g 13) (h 13) w) (ft_re (ft_sl g) h (ft_sl g 13) (h 13) v) (fun q => hF ?_ tb) (fun q => hT (Or.inl q) tb) rfl rfl (by omega) (by omega)) rfl rfl (by omega) (by omega)))
  · rw [ev, ew] at we
    exact Or.inr ⟨e, Or.inr ⟨we, q⟩⟩
  · rw [ev, ew] at we
    intro b
    cases b with
    | inl b => omega
    | inr b =>
      cases b.2 with
      | inl b => exact b (we ▸ Int32.le_refl _)
      | inr b => exact q b.2
  · rw [ev, ew] at we q
    intro b
    cases b with
    | inl b => omega
    | inr b =>
      cases b.2 with
      | inl b => exact b q
      | inr b => exact we b.1
  · rw [ev, ew] at we q
    exact Or.inr ⟨e, Or.inl q⟩
  · intro b
    cases b with
    | inl b => omega
    | inr b => exact e b.1
theorem fy_rank_4 {post : Int32 → SY → Prop} (H : fy_ok g h la le) (hK : K ≤ 3) (hc : c ≤ 12) {w : Nat} (hw : w < 12) (hp : ∀ tb, post (nI (ft_cn (fun v => ft_re (ft_sl g) h (ft_sl g 13) (h 13) v ≤ K ∧ ft_bf (ft_re (ft_sl g) h (ft_sl g 13) (h 13)) ws (ft_pw (ft_sl g) h) v w) c)) (nI K, nI c, la, le, ws, tb)) : ∀ d i n tb, i + d = c → d < n → wY_rankOf_4 post (nI w) n (nI (ft_cn (fun v => ft_re (ft_sl g) h (ft_sl g 13) (h 13) v ≤ K ∧ ft_bf (ft_re (ft_sl g) h (ft_sl g 13) (h 13)) ws (ft_pw (ft_sl g) h) v w) i)) (nI i) (nI K) (nI c) la le ws tb := by
  intro d
  induction d with
  | zero =>
    intro i n tb hi hn
    obtain ⟨n, rfl⟩ := ft_fuel hn
    have e : i = c := by omega
    subst e
    exact br_t (nI_le (Nat.le_refl i) (by omega)) (hp tb)
  | succ d ih =>
    intro i n tb hi hn
    obtain ⟨n, rfl⟩ := ft_fuel hn
    have I := fun tb => ih (i + 1) n tb (by omega) (by omega)
    refine br_f (nI_ge (by omega) (by omega)) (fy_isOffered H hK (by omega) (fun o tb => br_f (by decide) (fy_ranksBefore H (by omega) hw (fun b tb => br_f (by decide) (nm_r (nI_1 _) (nm_r (nI_1 i) ?_))) (fun b tb => br_t rfl (nm_r (nI_1 i) ?_)))) (fun o tb => br_t rfl (nm_r (nI_1 i) ?_)))
    · have I := I tb
      rw [ft_cn_t (p := fun v => ft_re (ft_sl g) h (ft_sl g 13) (h 13) v ≤ K ∧ ft_bf (ft_re (ft_sl g) h (ft_sl g 13) (h 13)) ws (ft_pw (ft_sl g) h) v w) (n := i) ⟨o, b⟩] at I
      exact I
    · have I := I tb
      rw [ft_cn_f (p := fun v => ft_re (ft_sl g) h (ft_sl g 13) (h 13) v ≤ K ∧ ft_bf (ft_re (ft_sl g) h (ft_sl g 13) (h 13)) ws (ft_pw (ft_sl g) h) v w) (n := i) (fun z => b z.2)] at I
      exact I
    · have I := I tb
      rw [ft_cn_f (p := fun v => ft_re (ft_sl g) h (ft_sl g 13) (h 13) v ≤ K ∧ ft_bf (ft_re (ft_sl g) h (ft_sl g 13) (h 13)) ws (ft_pw (ft_sl g) h) v w) (n := i) (fun z => o z.1)] at I
      exact I
theorem fy_rankOf {post : Int32 → SY → Prop} (H : fy_ok g h la le) (hK : K ≤ 3) (hc : c ≤ 12) {w : Nat} (hw : w < 12) {tb : Nat → Int32} (hp : ∀ tb, post (nI (ft_cn (fun v => ft_re (ft_sl g) h (ft_sl g 13) (h 13) v ≤ K ∧ ft_bf (ft_re (ft_sl g) h (ft_sl g 13) (h 13)) ws (ft_pw (ft_sl g) h) v w) c)) (nI K, nI c, la, le, ws, tb)) : wpY_rankOf post (nI K, nI c, la, le, ws, tb) (nI w) :=
  ⟨c + 1, fy_rank_4 H hK hc hw hp c 0 (c + 1) tb (by omega) (by omega)⟩
theorem ft_rank_eq {re : Nat → Nat} {pl : Nat → Nat} {w : Nat} (hw : re w ≤ K) : ft_cn (fun v => re v ≤ K ∧ ft_bf re ws pl v w) c = ft_cn (fun v => ft_bf re ws pl v w) c := by
  refine ft_cn_cg (fun v _ => ⟨fun z => z.2, fun z => ⟨?_, z⟩⟩)
  cases z with
  | inl z => omega
  | inr z => omega
theorem fy_wat_2 {post : Int32 → SY → Prop} (H : fy_ok g h la le) (hK : K ≤ 3) (hc : c ≤ 12) {r : Int32} (hS : ∀ w, w < c → ft_at (ft_sl g) h (ft_sl g 13) (h 13) c ws K r w → (∀ v, v < w → ¬ ft_at (ft_sl g) h (ft_sl g 13) (h 13) c ws K r v) → ∀ tb, post (nI w) (nI K, nI c, la, le, ws, tb)) (hN : (∀ w, w < c → ¬ ft_at (ft_sl g) h (ft_sl g 13) (h 13) c ws K r w) → ∀ tb, post (-4) (nI K, nI c, la, le, ws, tb)) : ∀ d i n tb, i + d = c → d < n → (∀ v, v < i → ¬ ft_at (ft_sl g) h (ft_sl g 13) (h 13) c ws K r v) → wY_wordAt_2 post r n (nI i) (nI K) (nI c) la le ws tb := by
  intro d
  induction d with
  | zero =>
    intro i n tb hi hn hv
    obtain ⟨n, rfl⟩ := ft_fuel hn
    have e : i = c := by omega
    subst e
    exact br_t (nI_le (Nat.le_refl i) (by omega)) (hN hv tb)
  | succ d ih =>
    intro i n tb hi hn hv
    obtain ⟨n, rfl⟩ := ft_fuel hn
    have I : ¬ ft_at (ft_sl g) h (ft_sl g 13) (h 13) c ws K r i → ∀ tb, wY_wordAt_2 post r n (nI (i + 1)) (nI K) (nI c) la le ws tb := fun q tb => ih (i + 1) n tb (by omega) (by omega) (lt_s hv q)
    refine br_f (nI_ge (by omega) (by omega)) (fy_isOffered H hK (by omega) (fun o tb => br_f (by decide) (fy_rankOf H hK hc (by omega) (fun tb => ?_))) (fun o tb => br_t rfl (nm_r (nI_1 i) (I (fun z => o z.1) tb))))
    rw [ft_rank_eq o]
    exact br_c (fun e => hS i (by omega) ⟨o, e⟩ hv tb) (fun e => nm_r (nI_1 i) (I (fun z => e z.2) tb))
theorem fy_wordAt {post : Int32 → SY → Prop} (H : fy_ok g h la le) (hK : K ≤ 3) (hc : c ≤ 12) {r : Int32} {tb : Nat → Int32} (hS : ∀ w, w < c → ft_at (ft_sl g) h (ft_sl g 13) (h 13) c ws K r w → (∀ v, v < w → ¬ ft_at (ft_sl g) h (ft_sl g 13) (h 13) c ws K r v) → ∀ tb, post (nI w) (nI K, nI c, la, le, ws, tb)) (hN : (∀ w, w < c → ¬ ft_at (ft_sl g) h (ft_sl g 13) (h 13) c ws K r w) → ∀ tb, post (-4) (nI K, nI c, la, le, ws, tb)) : wpY_wordAt post (nI K, nI c, la, le, ws, tb) r :=
  ⟨c + 1, fy_wat_2 H hK hc hS hN c 0 (c + 1) tb (by omega) (by omega) lt_0⟩
theorem fy_offered_4 {post : Int32 → SY → Prop} (H : fy_ok g h la le) (hK : K ≤ 3) (hc : c ≤ 12) (hp : ∀ tb, post (nI (ft_cn (fun l => ft_re (ft_sl g) h (ft_sl g 13) (h 13) l ≤ K) c)) (nI K, nI c, la, le, ws, tb)) : ∀ d i n tb, i + d = c → d < n → wY_offered_4 post n (nI (ft_cn (fun l => ft_re (ft_sl g) h (ft_sl g 13) (h 13) l ≤ K) i)) (nI i) (nI K) (nI c) la le ws tb := by
  intro d
  induction d with
  | zero =>
    intro i n tb hi hn
    obtain ⟨n, rfl⟩ := ft_fuel hn
    have e : i = c := by omega
    subst e
    exact br_t (nI_le (Nat.le_refl i) (by omega)) (hp tb)
  | succ d ih =>
    intro i n tb hi hn
    obtain ⟨n, rfl⟩ := ft_fuel hn
    refine br_f (nI_ge (by omega) (by omega)) (fy_isOffered H hK (by omega) (fun o tb => br_f (by decide) (nm_r (nI_1 _) (nm_r (nI_1 i) ?_))) (fun o tb => br_t rfl (nm_r (nI_1 i) ?_)))
    · have I := ih (i + 1) n tb (by omega) (by omega)
      rw [ft_cn_t (p := fun l => ft_re (ft_sl g) h (ft_sl g 13) (h 13) l ≤ K) (n := i) o] at I
      exact I
    · have I := ih (i + 1) n tb (by omega) (by omega)
      rw [ft_cn_f (p := fun l => ft_re (ft_sl g) h (ft_sl g 13) (h 13) l ≤ K) (n := i) o] at I
      exact I
theorem fy_offered {post : Int32 → SY → Prop} (H : fy_ok g h la le) (hK : K ≤ 3) (hc : c ≤ 12) {tb : Nat → Int32} (hp : ∀ tb, post (nI (ft_cn (fun l => ft_re (ft_sl g) h (ft_sl g 13) (h 13) l ≤ K) c)) (nI K, nI c, la, le, ws, tb)) : wpY_offered post (nI K, nI c, la, le, ws, tb) :=
  ⟨c + 1, fy_offered_4 H hK hc hp c 0 (c + 1) tb (by omega) (by omega)⟩
theorem fy_offer_20 {post : Int32 → SY → Prop} (H : fy_ok g h la le) {l : Nat} (hl : l < 14) {tb : Nat → Int32} (hp : post (nI (ft_cd (ft_sl g l) (h l))) (lm, ct, la, le, ws, tb)) : ∀ d i n, i + d = h l → d < n → wY_offer_20 post (nI l) lm ct la le ws tb n (nI (ft_cd (ft_sl g l) i)) (nI i) := by
  have h6 := H.2.1 l
  intro d
  induction d with
  | zero =>
    intro i n hi hn
    obtain ⟨n, rfl⟩ := ft_fuel hn
    have e : i = h l := by omega
    subst e
    exact ⟨vp_in_nI hl (by decide), pk_le (h l) (h l) (fun _ => hp) (fun z => absurd z (by omega)) (fy_le H hl) rfl (by omega) (by omega)⟩
  | succ d ih =>
    intro i n hi hn
    obtain ⟨n, rfl⟩ := ft_fuel hn
    have e : nI (ft_cd (ft_sl g l) i) * 5 + la ((6 : Int32) * nI l + nI i).toNatClampNeg + 1 = nI (ft_cd (ft_sl g l) (i + 1)) := by
      have e5 : nI (ft_cd (ft_sl g l) i) * 5 = nI (ft_cd (ft_sl g l) i * 5) := pk_mul _ 5
      rw [fy_la H hl (by omega), e5, nI_add, nI_1, ft_cd_s]
      congr 1
      omega
    exact ⟨vp_in_nI hl (by decide), pk_le (h l) i (fun z => absurd z (by omega)) (fun _ => ⟨fy_vi hl (by omega), nm_r e (nm_r (nI_1 i) (ih (i + 1) n (by omega) (by omega)))⟩) (fy_le H hl) rfl (by omega) (by omega)⟩
theorem fy_nearest_5 {post : Int32 → SY → Prop} (H : fy_ok g h la le) (hK : K ≤ 3) (hc : c ≤ 12) (hT : ft_bs (ft_ed (ft_sl g) h (ft_sl g 13) (h 13)) c ≤ K → ∀ tb, post (nI (ft_bs (ft_ed (ft_sl g) h (ft_sl g 13) (h 13)) c)) (nI K, nI c, la, le, ws, tb)) (hF : K < ft_bs (ft_ed (ft_sl g) h (ft_sl g 13) (h 13)) c → ∀ tb, post (-4) (nI K, nI c, la, le, ws, tb)) : ∀ d i n tb, i + d = c → d < n → wY_nearest_5 post n (nI (ft_bs (ft_ed (ft_sl g) h (ft_sl g 13) (h 13)) i)) (nI i) (nI K) (nI c) la le ws tb := by
  have h6 := H.2.1 13
  intro d
  induction d with
  | zero =>
    intro i n tb hi hn
    obtain ⟨n, rfl⟩ := ft_fuel hn
    have e : i = c := by omega
    subst e
    have ub := ft_bs_9 (ft_ed (ft_sl g) h (ft_sl g 13) (h 13)) i
    exact br_t (nI_le (Nat.le_refl i) (by omega)) (pk_lt K _ (fun q => hF q tb) (fun q => hT q tb) rfl rfl (by omega) (by omega))
  | succ d ih =>
    intro i n tb hi hn
    obtain ⟨n, rfl⟩ := ft_fuel hn
    have h7 := H.2.1 i
    have ub := ft_bs_9 (ft_ed (ft_sl g) h (ft_sl g 13) (h 13)) i
    have u1 := ft_D_ub (ft_sl g 13) (ft_sl g i) (h 13) (h i)
    have ee : ft_ed (ft_sl g) h (ft_sl g 13) (h 13) i = ft_D (ft_sl g 13) (ft_sl g i) (h 13) (h i) := ft_edit _ _ _ _
    have ei : le 13 * (7 : Int32) + le (nI i).toNatClampNeg = nI (h 13 * 7 + h i) := by rw [fy_le H (by omega), H.2.2.2 13, fy_ix7]
    refine br_f (nI_ge (by omega) (by omega)) (fy_fill H i (by omega) rfl (fun tb hT' => ⟨vp_in_nI (by omega) (by decide), ?_, ?_⟩))
    · rw [ei]; exact vp_in_nI (by omega) (by decide)
    · have et : tb (le 13 * (7 : Int32) + le (nI i).toNatClampNeg).toNatClampNeg = nI (ft_ed (ft_sl g) h (ft_sl g 13) (h 13) i) := by
        rw [ei, nI_clamp (by omega), ee]; exact hT' _ _ (by omega)
      exact fy_least _ _ rfl et (by omega) (by omega) (nm_r (nI_1 i) (ih (i + 1) n tb (by omega) (by omega)))
theorem fy_nearest {post : Int32 → SY → Prop} (H : fy_ok g h la le) (hK : K ≤ 3) (hc : c ≤ 12) {tb : Nat → Int32} (hT : ft_bs (ft_ed (ft_sl g) h (ft_sl g 13) (h 13)) c ≤ K → ∀ tb, post (nI (ft_bs (ft_ed (ft_sl g) h (ft_sl g 13) (h 13)) c)) (nI K, nI c, la, le, ws, tb)) (hF : K < ft_bs (ft_ed (ft_sl g) h (ft_sl g 13) (h 13)) c → ∀ tb, post (-4) (nI K, nI c, la, le, ws, tb)) : wpY_nearest post (nI K, nI c, la, le, ws, tb) :=
  ⟨c + 1, fy_nearest_5 H hK hc hT hF c 0 (c + 1) tb (by omega) (by omega)⟩
theorem fy_exact_4 {post : Int32 → Prop} (H : fy_ok g h la le) (hc : c ≤ 12) {tb : Nat → Int32} (hp : post (nI (ft_cn (fun l => ft_bg (ft_sl g 13) (h 13) (ft_sl g l) (h l)) c))) : ∀ d i n, i + d = c → d < n → wY_exact_4 post lm (nI c) la le ws tb n (nI (ft_cn (fun l => ft_bg (ft_sl g 13) (h 13) (ft_sl g l) (h l)) i)) (nI i) := by
  intro d
  induction d with
  | zero =>
    intro i n hi hn
    obtain ⟨n, rfl⟩ := ft_fuel hn
    have e : i = c := by omega
    subst e
    exact br_t (nI_le (Nat.le_refl i) (by omega)) hp
  | succ d ih =>
    intro i n hi hn
    obtain ⟨n, rfl⟩ := ft_fuel hn
    have I := ih (i + 1) n (by omega) (by omega)
    refine br_f (nI_ge (by omega) (by omega)) (fy_begins H 13 i (by decide) (by omega) rfl rfl (fun b => br_f (by decide) (nm_r (nI_1 _) (nm_r (nI_1 i) ?_))) (fun b => br_t rfl (nm_r (nI_1 i) ?_)))
    · rw [ft_cn_t (p := fun l => ft_bg (ft_sl g 13) (h 13) (ft_sl g l) (h l)) (n := i) b] at I
      exact I
    · rw [ft_cn_f (p := fun l => ft_bg (ft_sl g 13) (h 13) (ft_sl g l) (h l)) (n := i) b] at I
      exact I
theorem fy_exact {post : Int32 → Prop} (H : fy_ok g h la le) (hc : c ≤ 12) {tb : Nat → Int32} (hp : post (nI (ft_cn (fun l => ft_bg (ft_sl g 13) (h 13) (ft_sl g l) (h l)) c))) : wpY_exact post (lm, nI c, la, le, ws, tb) :=
  ⟨c + 1, fy_exact_4 H hc hp c 0 (c + 1) (by omega) (by omega)⟩
theorem fy_continues_4 {post : Int32 → Prop} (H : fy_ok g h la le) (hc : c ≤ 12) {tb : Nat → Int32} (hp : post (ft_fo (ft_sl g) h (ft_sl g 13) (h 13) c)) : ∀ d i n, i + d = c → d < n → wY_continues_4 post lm (nI c) la le ws tb n (ft_fo (ft_sl g) h (ft_sl g 13) (h 13) i) (nI i) := by
  have h6 := H.2.1 13
  intro d
  induction d with
  | zero =>
    intro i n hi hn
    obtain ⟨n, rfl⟩ := ft_fuel hn
    have e : i = c := by omega
    subst e
    exact br_t (nI_le (Nat.le_refl i) (by omega)) hp
  | succ d ih =>
    intro i n hi hn
    obtain ⟨n, rfl⟩ := ft_fuel hn
    have h7 := H.2.1 i
    have I := ih (i + 1) n (by omega) (by omega)
    have F : ¬ (ft_bg (ft_sl g 13) (h 13) (ft_sl g i) (h i) ∧ h 13 < h i) → ft_fo (ft_sl g) h (ft_sl g 13) (h 13) (i + 1) = ft_fo (ft_sl g) h (ft_sl g 13) (h 13) i := fun q => ft_or_f (p := fun l => ft_bg (ft_sl g 13) (h 13) (ft_sl g l) (h l) ∧ h 13 < h l) q
    refine br_f (nI_ge (by omega) (by omega)) (fy_begins H 13 i (by decide) (by omega) rfl rfl (fun b => br_f (by decide) ⟨vp_in_nI (by omega) (by decide), pk_le (h i) (h 13) (fun q => nm_r (nI_1 i) ?_) (fun q => ⟨?_, nm_r (?_ : _ = ft_fo (ft_sl g) h (ft_sl g 13) (h 13) (i + 1)) (nm_r (nI_1 i) I)⟩) (fy_le H (by omega)) (H.2.2.2 13) (by omega) (by omega)⟩) (fun b => br_t rfl (nm_r (nI_1 i) ?_)))
    · rw [F (fun z => absurd z.2 (by omega))] at I
      exact I
    · rw [H.2.2.2 13]; exact fy_vi (by omega) (by omega)
    · rw [H.2.2.2 13, fy_la H (by omega) (by omega)]
      exact (ft_or_t (p := fun l => ft_bg (ft_sl g 13) (h 13) (ft_sl g l) (h l) ∧ h 13 < h l) (x := fun l => (1 : Int32) <<< (nI (ft_sl g l (h 13)) &&& 31)) (n := i) ⟨b, q⟩).symm
    · rw [F (fun z => b z.1)] at I
      exact I
theorem fy_continues {post : Int32 → Prop} (H : fy_ok g h la le) (hc : c ≤ 12) {tb : Nat → Int32} (hp : post (ft_fo (ft_sl g) h (ft_sl g 13) (h 13) c)) : wpY_continues post (lm, nI c, la, le, ws, tb) :=
  ⟨c + 1, fy_continues_4 H hc hp c 0 (c + 1) (by omega) (by omega)⟩
end
end
section
/-- one dictionary on both sides: g the letters, h the lengths of the fourteen lists; list 12 is the draft, 13 the query -/
def i_Rel (k : Nat) (u : SX) (v : SY) : Prop := ∃ (K c : Nat) (g h : Nat → Nat) (cs ws rc ro la le tb : Nat → Int32), u = (nI K, nI (ft_cd (ft_sl g 12) (h 12)), nI (ft_cd (ft_sl g 13) (h 13)), nI c, cs, ws, rc, ro) ∧ v = (nI K, nI c, la, le, ws, tb) ∧ K ≤ 3 ∧ c ≤ 12 ∧ fy_ok g h la le ∧ ∀ l, l < 12 → cs l = nI (ft_cd (ft_sl g l) (h l))
theorem i_up {k : Nat} {u : SX} {v : SY} (h : i_Rel k u v) : i_Rel (k + 2) u v := h
theorem fr_mk {k K c : Nat} {g h : Nat → Nat} {cs ws rc ro la le tb : Nat → Int32} {dc qc ct : Int32} (hd : dc = nI (ft_cd (ft_sl g 12) (h 12))) (hq : qc = nI (ft_cd (ft_sl g 13) (h 13))) (ht : ct = nI c) (hK : K ≤ 3) (hc : c ≤ 12) (H : fy_ok g h la le) (hcs : ∀ l, l < 12 → cs l = nI (ft_cd (ft_sl g l) (h l))) : i_Rel k (nI K, dc, qc, ct, cs, ws, rc, ro) (nI K, ct, la, le, ws, tb) := by
  subst hd hq ht
  exact ⟨K, c, g, h, cs, ws, rc, ro, la, le, tb, rfl, rfl, hK, hc, H, hcs⟩
theorem fr_ok {g h : Nat → Nat} {la le cs : Nat → Int32} {c : Nat} (H : fy_ok g h la le) (hc : c ≤ 12) (hcs : ∀ l, l < 12 → cs l = nI (ft_cd (ft_sl g l) (h l))) : fx_ok (ft_sl g) h (ft_sl g 13) (h 13) c cs := ⟨fy_sl4 H 13, H.2.1 13, fy_sl4 H, H.2.1, hc, hcs⟩
theorem fr_n4 {w : Nat} (h : w < 2 ^ 31) : ¬ nI w = -4 := fun e => by
  have := nI_pos h
  rw [e] at this
  exact this (by decide)
theorem fr_u {p : Nat → Prop} {w v : Nat} (hw : p w) (mw : ∀ i, i < w → ¬ p i) (hv : p v) (mv : ∀ i, i < v → ¬ p i) : w = v := by
  by_cases a : w < v
  · exact absurd hw (mv w a)
  · by_cases b : v < w
    · exact absurd hv (mw v b)
    · omega
/-! the draft emptied, a letter appended, a list copied -/
theorem ft_up_s (g : Nat → Nat) (k x : Nat) : ft_up g k x k = x := if_pos rfl
theorem ft_up_n (g : Nat → Nat) {k j : Nat} (x : Nat) (h : j ≠ k) : ft_up g k x j = g j := if_neg h
theorem fr_le {h : Nat → Nat} {le : Nat → Int32} (H : ∀ j, le j = nI (h j)) {l x : Nat} {y : Int32} (hy : y = nI x) : ∀ j, upd le l y j = nI (ft_up h l x j) := fun j => by
  by_cases q : j = l
  · subst q; rw [pk_us, ft_up_s, hy]
  · rw [pk_un q, ft_up_n _ _ q]; exact H j
theorem fr_h6 {h : Nat → Nat} (H : ∀ j, h j ≤ 6) {l x : Nat} (hx : x ≤ 6) : ∀ j, ft_up h l x j ≤ 6 := fun j => by
  by_cases q : j = l
  · subst q; rw [ft_up_s]; exact hx
  · rw [ft_up_n _ _ q]; exact H j
theorem fr_app_s (g h : Nat → Nat) (l k : Nat) : ft_cd (ft_sl (ft_up g (6 * l + h l) k) l) (ft_up h l (h l + 1) l) = 5 * ft_cd (ft_sl g l) (h l) + (k + 1) := by
  rw [ft_up_s, ft_cd_s]
  have e1 : ft_sl (ft_up g (6 * l + h l) k) l (h l) = k := ft_up_s _ _ _
  have e2 : ft_cd (ft_sl (ft_up g (6 * l + h l) k) l) (h l) = ft_cd (ft_sl g l) (h l) := ft_cd_cg (fun i hi => ft_up_n _ _ (by omega))
  rw [e1, e2]
theorem fr_app_n (g h : Nat → Nat) {l a : Nat} (k : Nat) (hh : ∀ j, h j ≤ 6) (hl : h l < 6) (ha : a ≠ l) : ft_cd (ft_sl (ft_up g (6 * l + h l) k) a) (ft_up h l (h l + 1) a) = ft_cd (ft_sl g a) (h a) := by
  rw [ft_up_n _ _ ha]
  have := hh a
  exact ft_cd_cg (fun i hi => ft_up_n _ _ (by omega))
theorem fr_app_ok {g h : Nat → Nat} {la le la' le' : Nat → Int32} (H : fy_ok g h la le) {l k : Nat} (hl : h l < 6) (hk : k < 4) (h1 : ∀ j, la' j = nI (ft_up g (6 * l + h l) k j)) (h2 : ∀ j, le' j = nI (ft_up h l (h l + 1) j)) : fy_ok (ft_up g (6 * l + h l) k) (ft_up h l (h l + 1)) la' le' := by
  refine ⟨fun j => ?_, fr_h6 H.2.1 (by omega), h1, h2⟩
  by_cases q : j = 6 * l + h l
  · subst q; rw [ft_up_s]; exact hk
  · rw [ft_up_n _ _ q]; exact H.1 j
theorem fr_code {f : Nat → Nat} {m k : Nat} {y : Int32} (hy : y = nI k) : nI (ft_cd f m) * 5 + y + 1 = nI (5 * ft_cd f m + (k + 1)) := by
  have e5 : nI (ft_cd f m) * 5 = nI (ft_cd f m * 5) := pk_mul _ 5
  rw [hy, e5, nI_add, nI_1]
  congr 1
  omega
theorem fr_cp_b (g h : Nat → Nat) (a b : Nat) : ft_cd (ft_sl (ft_cp g a b (h a)) b) (h a) = ft_cd (ft_sl g a) (h a) := by
  refine ft_cd_cg (fun i hi => ?_)
  unfold ft_sl ft_cp
  rw [if_pos (by omega), show 6 * b + i - 6 * b = i by omega]
theorem fr_cp_n (g h : Nat → Nat) {a b l : Nat} (hh : ∀ j, h j ≤ 6) (hl : l ≠ b) {n : Nat} (hn : n ≤ 6) : ft_cd (ft_sl (ft_cp g a b (h a)) l) n = ft_cd (ft_sl g l) n := by
  have := hh a
  refine ft_cd_cg (fun i hi => ?_)
  unfold ft_sl ft_cp
  rw [if_neg (by omega)]
theorem fr_cp_4 {g : Nat → Nat} (hg : ∀ j, g j < 4) (a b n : Nat) : ∀ j, ft_cp g a b n j < 4 := fun j => by
  unfold ft_cp
  split
  · exact hg _
  · exact hg _
theorem fx_lengthWith {post : Int32 → Prop} {f : Nat → Nat} (hf : ∀ i, f i < 4) {m : Nat} (hm : m ≤ 6) {y : Int32} (h1 : y < 0 → post (-1)) (h2 : ¬ y < 0 → ¬ y ≤ 3 → post (-1)) (h3 : ¬ y < 0 → y ≤ 3 → m = 6 → post (-2)) (h4 : ¬ y < 0 → y ≤ 3 → m < 6 → post (nI (m + 1))) : wpX_lengthWith post (nI (ft_cd f m)) y := by
  refine br_c h1 (fun n0 => br_c (fun n3 => fx_lengthOf hf hm (pk_lt m 6 (fun q => ?_) (fun q => h3 n0 n3 (by omega)) rfl rfl (by omega) (by omega))) (h2 n0))
  rw [nI_1]
  exact h4 n0 n3 q
theorem fx_0 {f : Nat → Nat} (hf : ∀ i, f i < 4) {m : Nat} (hm : m ≤ 6) {A B : Prop} (a : m = 0 → A) (b : 0 < m → B) : (nI (ft_cd f m) = 0 → A) ∧ (¬ nI (ft_cd f m) = 0 → B) := by
  cases m with
  | zero => exact br_t rfl (a rfl)
  | succ m => exact br_f (fx_n0 hf (by omega)) (b (by omega))
theorem fr_e0 (g h : Nat → Nat) (l : Nat) : (0 : Int32) = nI (ft_cd (ft_sl g l) (ft_up h l 0 l)) := by
  rw [ft_up_s]; rfl
end
section
theorem fr_0 {K : Nat} (hK : K ≤ 3) : i_Rel 1 (nI K, 0, 0, 0, (fun _ => 0), (fun _ => 0), (fun _ => 0), (fun _ => 0)) (nI K, 0, (fun _ => 0), (fun _ => 0), (fun _ => 0), (fun _ => 0)) :=
  fr_mk (c := 0) (g := fun _ => 0) (h := fun _ => 0) rfl rfl rfl hK (by omega) ⟨fun _ => (by decide : 0 < 4), fun _ => Nat.zero_le 6, fun _ => rfl, fun _ => rfl⟩ (fun _ _ => rfl)
theorem i_vc0 (k0 : Int32) : wpX_init (fun u => wpY_init (fun v => i_Rel 1 u v) k0) k0 := by
  refine br_c (fun h0 => br_c (fun h3 => ?_) (fun h3 => br_t h0 (br_f h3 (fr_0 (K := 3) (by omega))))) (fun h0 => br_f h0 (fr_0 (K := 0) (by omega)))
  obtain ⟨j, hj, e⟩ := nI_of2 (M := 3) (n := 3) (by decide) (Int32.not_lt.mpr h0) h3
  refine br_t h0 (br_t h3 ?_)
  rw [e]
  exact fr_0 hj
theorem i_vc_draft {k : Nat} {u : SX} {v : SY} (I : i_Rel k u v) (hk : k + 2 ≤ 1025) (v1 : Int32) : wpX_draft (fun r u' => wpY_draft (fun r' v' => r' = r ∧ i_Rel (k + 2) u' v') v v1) u v1 := by
  obtain ⟨K, c, g, h, cs, ws, rc, ro, la, le, tb, rfl, rfl, hK, hc, H, hcs⟩ := I
  have R : i_Rel (k + 2) (nI K, nI (ft_cd (ft_sl g 12) (h 12)), nI (ft_cd (ft_sl g 13) (h 13)), nI c, cs, ws, rc, ro) (nI K, nI c, la, le, ws, tb) := fr_mk rfl rfl rfl hK hc H hcs
  unfold wpX_draft
  dsimp only
  refine fx_lengthWith (fy_sl4 H 12) (H.2.1 12) (fun n => br_t (by decide) ?_) (fun n n3 => br_t (by decide) ?_) (fun n n3 q => br_t (by decide) ?_) (fun n n3 q => br_f (nI_nle (by omega) (by omega)) ?_)
  · unfold wpY_draft
    dsimp only
    exact fy_append H 12 (by decide) rfl (fun _ => ⟨rfl, R⟩) (fun z => absurd n z) (fun z => absurd n z) (fun z => absurd n z)
  · unfold wpY_draft
    dsimp only
    exact fy_append H 12 (by decide) rfl (fun z => absurd z n) (fun _ _ => ⟨rfl, R⟩) (fun _ z => absurd z n3) (fun _ z => absurd z n3)
  · unfold wpY_draft
    dsimp only
    exact fy_append H 12 (by decide) rfl (fun z => absurd z n) (fun _ z => absurd n3 z) (fun _ _ _ => ⟨rfl, R⟩) (fun _ _ z => absurd z (by omega))
  · unfold wpX_append wpY_draft
    dsimp only
    refine fy_append H 12 (by decide) rfl (fun z => absurd z n) (fun _ z => absurd n3 z) (fun _ _ z => absurd z (by omega)) (fun _ _ _ x la' le' ex hx h1 h2 => ⟨rfl, ?_⟩)
    refine fr_mk (g := ft_up g (6 * 12 + h 12) x) (h := ft_up h 12 (h 12 + 1)) ?_ ?_ rfl hK hc (fr_app_ok H q hx h1 h2) (fun l hl => ?_)
    · rw [fr_app_s]; exact fr_code ex
    · rw [fr_app_n g h x H.2.1 q (by decide)]
    · rw [fr_app_n g h x H.2.1 q (by omega)]; exact hcs l hl
theorem i_vc_type {k : Nat} {u : SX} {v : SY} (I : i_Rel k u v) (hk : k + 2 ≤ 1025) (v1 : Int32) : wpX_type (fun r u' => wpY_type (fun r' v' => r' = r ∧ i_Rel (k + 2) u' v') v v1) u v1 := by
  obtain ⟨K, c, g, h, cs, ws, rc, ro, la, le, tb, rfl, rfl, hK, hc, H, hcs⟩ := I
  have R : i_Rel (k + 2) (nI K, nI (ft_cd (ft_sl g 12) (h 12)), nI (ft_cd (ft_sl g 13) (h 13)), nI c, cs, ws, rc, ro) (nI K, nI c, la, le, ws, tb) := fr_mk rfl rfl rfl hK hc H hcs
  unfold wpX_type
  dsimp only
  refine fx_lengthWith (fy_sl4 H 13) (H.2.1 13) (fun n => br_t (by decide) ?_) (fun n n3 => br_t (by decide) ?_) (fun n n3 q => br_t (by decide) ?_) (fun n n3 q => br_f (nI_nle (by omega) (by omega)) ?_)
  · unfold wpY_type
    dsimp only
    exact fy_append H 13 (by decide) rfl (fun _ => ⟨rfl, R⟩) (fun z => absurd n z) (fun z => absurd n z) (fun z => absurd n z)
  · unfold wpY_type
    dsimp only
    exact fy_append H 13 (by decide) rfl (fun z => absurd z n) (fun _ _ => ⟨rfl, R⟩) (fun _ z => absurd z n3) (fun _ z => absurd z n3)
  · unfold wpY_type
    dsimp only
    exact fy_append H 13 (by decide) rfl (fun z => absurd z n) (fun _ z => absurd n3 z) (fun _ _ _ => ⟨rfl, R⟩) (fun _ _ z => absurd z (by omega))
  · unfold wpX_append wpY_type
    dsimp only
    refine fy_append H 13 (by decide) rfl (fun z => absurd z n) (fun _ z => absurd n3 z) (fun _ _ z => absurd z (by omega)) (fun _ _ _ x la' le' ex hx h1 h2 => ⟨rfl, ?_⟩)
    refine fr_mk (g := ft_up g (6 * 13 + h 13) x) (h := ft_up h 13 (h 13 + 1)) ?_ ?_ rfl hK hc (fr_app_ok H q hx h1 h2) (fun l hl => ?_)
    · rw [fr_app_n g h x H.2.1 q (by decide)]
    · rw [fr_app_s]; exact fr_code ex
    · rw [fr_app_n g h x H.2.1 q (by omega)]; exact hcs l hl
theorem fr_drop {k K c : Nat} {g h : Nat → Nat} {cs ws rc ro la le tb : Nat → Int32} {qc : Int32} (hq : qc = nI (ft_cd (ft_sl g 13) (h 13))) (hK : K ≤ 3) (hc : c ≤ 12) (H : fy_ok g h la le) (hcs : ∀ l, l < 12 → cs l = nI (ft_cd (ft_sl g l) (h l))) : i_Rel k (nI K, 0, qc, nI c, cs, ws, rc, ro) (nI K, nI c, la, upd le 12 0, ws, tb) :=
  fr_mk (g := g) (h := ft_up h 12 0) (fr_e0 g h 12) hq rfl hK hc ⟨H.1, fr_h6 H.2.1 (by omega), H.2.2.1, fr_le H.2.2.2 rfl⟩ (fun l hl => by rw [ft_up_n _ _ (by omega)]; exact hcs l hl)
theorem i_vc_scrap {k : Nat} {u : SX} {v : SY} (I : i_Rel k u v) (hk : k + 2 ≤ 1025) : wpX_scrap (fun u' => wpY_scrap (fun v' => i_Rel (k + 2) u' v') v) u := by
  obtain ⟨K, c, g, h, cs, ws, rc, ro, la, le, tb, rfl, rfl, hK, hc, H, hcs⟩ := I
  exact nm_e (fr_drop rfl hK hc H hcs)
theorem i_vc_reset {k : Nat} {u : SX} {v : SY} (I : i_Rel k u v) (hk : k + 2 ≤ 1025) : wpX_reset (fun u' => wpY_reset (fun v' => i_Rel (k + 2) u' v') v) u := by
  obtain ⟨K, c, g, h, cs, ws, rc, ro, la, le, tb, rfl, rfl, hK, hc, H, hcs⟩ := I
  exact nm_e (fr_mk (g := g) (h := ft_up h 13 0) rfl (fr_e0 g h 13) rfl hK hc ⟨H.1, fr_h6 H.2.1 (by omega), H.2.2.1, fr_le H.2.2.2 rfl⟩ (fun l hl => by rw [ft_up_n _ _ (by omega)]; exact hcs l hl))
theorem i_vc_words {k : Nat} {u : SX} {v : SY} (I : i_Rel k u v) (hk : k + 2 ≤ 1025) : wpX_words (fun r => wpY_words (fun r' => r' = r ∧ i_Rel (k + 2) u v) v) u := by
  have I' := i_up I
  obtain ⟨K, c, g, h, cs, ws, rc, ro, la, le, tb, rfl, rfl, hK, hc, H, hcs⟩ := I
  exact ⟨rfl, I'⟩
theorem i_vc_length {k : Nat} {u : SX} {v : SY} (I : i_Rel k u v) (hk : k + 2 ≤ 1025) : wpX_length (fun r => wpY_length (fun r' => r' = r ∧ i_Rel (k + 2) u v) v) u := by
  have I' := i_up I
  obtain ⟨K, c, g, h, cs, ws, rc, ro, la, le, tb, rfl, rfl, hK, hc, H, hcs⟩ := I
  exact fx_lengthOf (fy_sl4 H 13) (H.2.1 13) ⟨H.2.2.2 13, I'⟩
theorem i_vc_weight {k : Nat} {u : SX} {v : SY} (I : i_Rel k u v) (hk : k + 2 ≤ 1025) : wpX_weight (fun r => wpY_weight (fun r' => r' = r ∧ i_Rel (k + 2) u v) v) u := by
  have I' := i_up I
  obtain ⟨K, c, g, h, cs, ws, rc, ro, la, le, tb, rfl, rfl, hK, hc, H, hcs⟩ := I
  refine fx_findDraft (fy_sl4 H 12) (H.2.1 12) (fy_sl4 H) H.2.1 hc hcs (fun w hw pw mw => br_f (fr_n4 (by omega)) ⟨vp_in_nI (by omega) (by decide), ?_⟩) (fun nw => br_t rfl ?_)
  · refine fy_drafted H hc (fun v hv pv mv => ?_) (fun nv => absurd pw (nv w hw))
    cases fr_u (p := fun w => ft_cd (ft_sl g w) (h w) = ft_cd (ft_sl g 12) (h 12)) pw mw pv mv
    exact br_f (fr_n4 (by omega)) ⟨vp_in_nI (by omega) (by decide), rfl, I'⟩
  · exact fy_drafted H hc (fun v hv pv mv => absurd pv (nw v hv)) (fun nv => br_t rfl ⟨rfl, I'⟩)
theorem i_vc_backspace {k : Nat} {u : SX} {v : SY} (I : i_Rel k u v) (hk : k + 2 ≤ 1025) : wpX_backspace (fun r u' => wpY_backspace (fun r' v' => r' = r ∧ i_Rel (k + 2) u' v') v) u := by
  have I' := i_up I
  obtain ⟨K, c, g, h, cs, ws, rc, ro, la, le, tb, rfl, rfl, hK, hc, H, hcs⟩ := I
  have h6 := H.2.1 13
  refine fx_0 (fy_sl4 H 13) h6 (fun q => pk_eq (h 13) 0 (fun _ => ⟨rfl, I'⟩) (fun z => absurd q z) (H.2.2.2 13) rfl (by omega) (by omega)) (fun q => ?_)
  obtain ⟨m, em⟩ : ∃ m, h 13 = m + 1 := ⟨h 13 - 1, by omega⟩
  rw [em]
  refine fx_lastLetter (fy_sl4 H 13) (by omega) ⟨fx_5, nm_r (fx_d5 (fy_sl4 H 13) (by omega)) (pk_eq (h 13) 0 (fun z => absurd z (by omega)) (fun _ => nm_r (?_ : _ = upd le 13 (nI m)) ?_) (H.2.2.2 13) rfl (by omega) (by omega))⟩
  · rw [H.2.2.2 13, em, nI_pred]
  · have e : (78 : Int32) + upd le 13 (nI m) 13 = nI (78 + m) := by rw [pk_us]; exact nI_add 78 m
    refine ⟨by rw [e]; exact vp_in_nI (by omega) (by decide), ?_, ?_⟩
    · rw [e, nI_clamp (by omega), H.2.2.1]; rfl
    · exact fr_mk (g := g) (h := ft_up h 13 m) rfl (by rw [ft_up_s]) rfl hK hc ⟨H.1, fr_h6 H.2.1 (by omega), H.2.2.1, fr_le H.2.2.2 rfl⟩ (fun l hl => by rw [ft_up_n _ _ (by omega)]; exact hcs l hl)
theorem fr_put {h : Nat → Nat} {g : Nat → Nat} {la le cs : Nat → Int32} (H : fy_ok g h la le) (hcs : ∀ l, l < 12 → cs l = nI (ft_cd (ft_sl g l) (h l))) {a b : Nat} (hb : b < 12) {x : Int32} (hx : x = nI (ft_cd (ft_sl g a) (h a))) : ∀ l, l < 12 → upd cs b x l = nI (ft_cd (ft_sl (ft_cp g a b (h a)) l) (ft_up h b (h a) l)) := fun l hl => by
  by_cases q : l = b
  · subst q
    rw [pk_us, ft_up_s, fr_cp_b, hx]
  · rw [pk_un q, ft_up_n _ _ q, fr_cp_n g h H.2.1 q (H.2.1 l)]
    exact hcs l hl
theorem fr_copied {g h : Nat → Nat} {la le la' : Nat → Int32} (H : fy_ok g h la le) {a b : Nat} (h1 : ∀ j, la' j = nI (ft_cp g a b (h a) j)) : fy_ok (ft_cp g a b (h a)) (ft_up h b (h a)) la' (upd le b (nI (h a))) :=
  ⟨fr_cp_4 H.1 a b (h a), fr_h6 H.2.1 (H.2.1 a), h1, fr_le H.2.2.2 rfl⟩
theorem fr_query {g h : Nat → Nat} {la le : Nat → Int32} (H : fy_ok g h la le) {a b : Nat} (hb : b < 12) : nI (ft_cd (ft_sl g 13) (h 13)) = nI (ft_cd (ft_sl (ft_cp g a b (h a)) 13) (ft_up h b (h a) 13)) := by
  rw [ft_up_n _ _ (by omega), fr_cp_n g h H.2.1 (by omega) (H.2.1 13)]
theorem i_vc_add {k : Nat} {u : SX} {v : SY} (I : i_Rel k u v) (hk : k + 2 ≤ 1025) (v1 : Int32) : wpX_add (fun r u' => wpY_add (fun r' v' => r' = r ∧ i_Rel (k + 2) u' v') v v1) u v1 := by
  have I' := i_up I
  obtain ⟨K, c, g, h, cs, ws, rc, ro, la, le, tb, rfl, rfl, hK, hc, H, hcs⟩ := I
  have h6 := H.2.1 12
  refine br_c (fun n0 => br_t n0 ⟨rfl, I'⟩) (fun n0 => br_c (fun n9 => br_f n0 (br_t n9 ⟨rfl, I'⟩)) (fun n9 => fx_0 (fy_sl4 H 12) h6 (fun q => br_f n0 (br_f n9 (pk_eq (h 12) 0 (fun _ => ⟨rfl, I'⟩) (fun z => absurd q z) (H.2.2.2 12) rfl (by omega) (by omega)))) (fun q => ?_)))
  have Y : ∀ {A B : Prop}, B → ((le 12 = 0 → A) ∧ (¬ le 12 = 0 → B)) := fun b => br_f (by rw [H.2.2.2 12]; exact nI_ne0 q (by omega)) b
  refine fx_findDraft (fy_sl4 H 12) h6 (fy_sl4 H) H.2.1 hc hcs (fun w hw pw mw => ?_) (fun nw => ?_)
  · have n4 := fr_n4 (w := w) (by omega)
    have vi : vp_in (nI w) 12 := vp_in_nI (by omega) (by decide)
    refine br_f n4 (br_f n4 ⟨vi, nm_e (br_f n0 (br_f n9 (Y (fy_drafted H hc (fun v hv pv mv => ?_) (fun nv => absurd pw (nv w hw))))))⟩)
    cases fr_u (p := fun w => ft_cd (ft_sl g w) (h w) = ft_cd (ft_sl g 12) (h 12)) pw mw pv mv
    exact br_f n4 (br_f n4 ⟨vi, nm_e (nm_e (br_f n4 ⟨rfl, fr_drop rfl hK hc H hcs⟩))⟩)
  · refine br_t rfl (pk_lt c 12 (fun c12 => ?_) (fun c12 => ?_) rfl rfl (by omega) (by omega))
    · have vi : vp_in (nI c) 12 := vp_in_nI c12 (by decide)
      refine br_t rfl ⟨vi, nm_e (nm_r (nI_1 c) ⟨vi, nm_e (br_f n0 (br_f n9 (Y (fy_drafted H hc (fun v hv pv mv => absurd pv (nw v hv)) (fun nv => br_t rfl (pk_eq c 12 (fun z => absurd z (by omega)) (fun _ => br_t rfl (fy_copy H 12 c (by decide) (by omega) rfl rfl (fun la' hla' => ⟨vi, nm_e (nm_r (nI_1 c) (nm_e (br_t rfl ⟨rfl, ?_⟩)))⟩))) rfl rfl (by omega) (by omega)))))))⟩)⟩
      rw [nI_clamp (by omega)]
      exact fr_drop (fr_query H c12) hK c12 (fr_copied H hla') (fr_put H hcs c12 rfl)
    · exact br_f n0 (br_f n9 (Y (fy_drafted H hc (fun v hv pv mv => absurd pv (nw v hv)) (fun nv => br_t rfl (pk_eq c 12 (fun _ => ⟨rfl, I'⟩) (fun z => absurd z (by omega)) rfl rfl (by omega) (by omega))))))
theorem i_vc_remove {k : Nat} {u : SX} {v : SY} (I : i_Rel k u v) (hk : k + 2 ≤ 1025) : wpX_remove (fun r u' => wpY_remove (fun r' v' => r' = r ∧ i_Rel (k + 2) u' v') v) u := by
  have I' := i_up I
  obtain ⟨K, c, g, h, cs, ws, rc, ro, la, le, tb, rfl, rfl, hK, hc, H, hcs⟩ := I
  have h6 := H.2.1 12
  refine fx_0 (fy_sl4 H 12) h6 (fun q => pk_eq (h 12) 0 (fun _ => ⟨rfl, I'⟩) (fun z => absurd q z) (H.2.2.2 12) rfl (by omega) (by omega)) (fun q => ?_)
  have Y : ∀ {A B : Prop}, B → ((le 12 = 0 → A) ∧ (¬ le 12 = 0 → B)) := fun b => br_f (by rw [H.2.2.2 12]; exact nI_ne0 q (by omega)) b
  refine fx_findDraft (fy_sl4 H 12) h6 (fy_sl4 H) H.2.1 hc hcs (fun w hw pw mw => ?_) (fun nw => br_t rfl (Y (fy_drafted H hc (fun v hv pv mv => absurd pv (nw v hv)) (fun nv => br_t rfl ⟨rfl, I'⟩))))
  obtain ⟨d, ed⟩ : ∃ d, c = d + 1 := ⟨c - 1, by omega⟩
  subst ed
  have n4 := fr_n4 (w := w) (by omega)
  have vi : vp_in (nI w) 12 := vp_in_nI (by omega) (by decide)
  have vd : vp_in (nI d) 12 := vp_in_nI (by omega) (by decide)
  refine br_f n4 ⟨vi, nm_e (nm_r (nI_pred d) ⟨vd, vi, nm_e ⟨vd, vi, nm_e (Y (fy_drafted H hc (fun v hv pv mv => ?_) (fun nv => absurd pw (nv w hw))))⟩⟩)⟩
  cases fr_u (p := fun w => ft_cd (ft_sl g w) (h w) = ft_cd (ft_sl g 12) (h 12)) pw mw pv mv
  refine br_f n4 ⟨vi, nm_e (nm_r (nI_pred d) (fy_copy H d w (by omega) (by omega) rfl rfl (fun la' hla' => ⟨vd, vi, nm_e (nm_e ⟨rfl, ?_⟩)⟩)))⟩
  rw [nI_clamp (by omega), nI_clamp (by omega)]
  exact fr_drop (fr_query H (by omega)) hK (by omega) (fr_copied H hla') (fr_put H hcs (by omega) (hcs d (by omega)))
theorem i_vc_offered {k : Nat} {u : SX} {v : SY} (I : i_Rel k u v) (hk : k + 2 ≤ 1025) : wpX_offered (fun r u' => wpY_offered (fun r' v' => r' = r ∧ i_Rel (k + 2) u' v') v) u := by
  obtain ⟨K, c, g, h, cs, ws, rc, ro, la, le, tb, rfl, rfl, hK, hc, H, hcs⟩ := I
  exact fx_offered (fr_ok H hc hcs) hK (fun rc ro => fy_offered H hK hc (fun tb => ⟨rfl, fr_mk rfl rfl rfl hK hc H hcs⟩))
theorem i_vc_offer {k : Nat} {u : SX} {v : SY} (I : i_Rel k u v) (hk : k + 2 ≤ 1025) (v1 : Int32) : wpX_offer (fun r u' => wpY_offer (fun r' v' => r' = r ∧ i_Rel (k + 2) u' v') v v1) u v1 := by
  obtain ⟨K, c, g, h, cs, ws, rc, ro, la, le, tb, rfl, rfl, hK, hc, H, hcs⟩ := I
  unfold wpX_offer
  dsimp only
  refine fx_wordAtRank (fr_ok H hc hcs) hK (fun w hw pw mw rc ro hr => br_f (fr_n4 (by omega)) ⟨vp_in_nI (by omega) (by decide), ?_⟩) (fun nw rc ro => br_t rfl ?_)
  · unfold wpY_offer
    dsimp only
    refine fy_wordAt H hK hc (fun v hv pv mv tb => ?_) (fun nv => absurd pw (nv w hw))
    cases fr_u (p := ft_at (ft_sl g) h (ft_sl g 13) (h 13) c ws K v1) pw mw pv mv
    refine br_f (fr_n4 (by omega)) ⟨h w + 1, fy_offer_20 H (by omega) ⟨?_, fr_mk rfl rfl rfl hK hc H hcs⟩ (h w) 0 (h w + 1) (by omega) (by omega)⟩
    rw [nI_clamp (by omega)]
    exact (hcs w (by omega)).symm
  · unfold wpY_offer
    dsimp only
    exact fy_wordAt H hK hc (fun v hv pv mv tb => absurd pv (nw v hv)) (fun nv tb => br_t rfl ⟨rfl, fr_mk rfl rfl rfl hK hc H hcs⟩)
theorem i_vc_distance {k : Nat} {u : SX} {v : SY} (I : i_Rel k u v) (hk : k + 2 ≤ 1025) (v1 : Int32) : wpX_distance (fun r u' => wpY_distance (fun r' v' => r' = r ∧ i_Rel (k + 2) u' v') v v1) u v1 := by
  obtain ⟨K, c, g, h, cs, ws, rc, ro, la, le, tb, rfl, rfl, hK, hc, H, hcs⟩ := I
  unfold wpX_distance
  dsimp only
  refine fx_wordAtRank (fr_ok H hc hcs) hK (fun w hw pw mw rc ro hr => br_f (fr_n4 (by omega)) ⟨vp_in_nI (by omega) (by decide), ?_⟩) (fun nw rc ro => br_t rfl ?_)
  · unfold wpY_distance
    dsimp only
    refine fy_wordAt H hK hc (fun v hv pv mv tb => ?_) (fun nv => absurd pw (nv w hw))
    cases fr_u (p := ft_at (ft_sl g) h (ft_sl g 13) (h 13) c ws K v1) pw mw pv mv
    refine br_f (fr_n4 (by omega)) (fy_reach H (by omega) (fun tb => ⟨?_, fr_mk rfl rfl rfl hK hc H hcs⟩))
    rw [nI_clamp (by omega)]
    exact (hr w hw).symm
  · unfold wpY_distance
    dsimp only
    exact fy_wordAt H hK hc (fun v hv pv mv tb => absurd pv (nw v hv)) (fun nv tb => br_t rfl ⟨rfl, fr_mk rfl rfl rfl hK hc H hcs⟩)
theorem i_vc_weightAt {k : Nat} {u : SX} {v : SY} (I : i_Rel k u v) (hk : k + 2 ≤ 1025) (v1 : Int32) : wpX_weightAt (fun r u' => wpY_weightAt (fun r' v' => r' = r ∧ i_Rel (k + 2) u' v') v v1) u v1 := by
  obtain ⟨K, c, g, h, cs, ws, rc, ro, la, le, tb, rfl, rfl, hK, hc, H, hcs⟩ := I
  unfold wpX_weightAt
  dsimp only
  refine fx_wordAtRank (fr_ok H hc hcs) hK (fun w hw pw mw rc ro hr => br_f (fr_n4 (by omega)) ⟨vp_in_nI (by omega) (by decide), ?_⟩) (fun nw rc ro => br_t rfl ?_)
  · unfold wpY_weightAt
    dsimp only
    refine fy_wordAt H hK hc (fun v hv pv mv tb => ?_) (fun nv => absurd pw (nv w hw))
    cases fr_u (p := ft_at (ft_sl g) h (ft_sl g 13) (h 13) c ws K v1) pw mw pv mv
    exact br_f (fr_n4 (by omega)) ⟨vp_in_nI (by omega) (by decide), rfl, fr_mk rfl rfl rfl hK hc H hcs⟩
  · unfold wpY_weightAt
    dsimp only
    exact fy_wordAt H hK hc (fun v hv pv mv tb => absurd pv (nw v hv)) (fun nv tb => br_t rfl ⟨rfl, fr_mk rfl rfl rfl hK hc H hcs⟩)
theorem i_vc_nearest {k : Nat} {u : SX} {v : SY} (I : i_Rel k u v) (hk : k + 2 ≤ 1025) : wpX_nearest (fun r u' => wpY_nearest (fun r' v' => r' = r ∧ i_Rel (k + 2) u' v') v) u := by
  obtain ⟨K, c, g, h, cs, ws, rc, ro, la, le, tb, rfl, rfl, hK, hc, H, hcs⟩ := I
  have e := ft_mn_bs (K + 1) (by omega) (ft_ed (ft_sl g) h (ft_sl g 13) (h 13)) c
  refine fx_nearest (fr_ok H hc hcs) hK (fun q ro => fy_nearest H hK hc (fun q' tb => ⟨?_, fr_mk rfl rfl rfl hK hc H hcs⟩) (fun q' => absurd q' (by omega))) (fun q ro => fy_nearest H hK hc (fun q' => absurd q' (by omega)) (fun q' tb => ⟨rfl, fr_mk rfl rfl rfl hK hc H hcs⟩))
  congr 1
  omega
theorem i_vc_exact {k : Nat} {u : SX} {v : SY} (I : i_Rel k u v) (hk : k + 2 ≤ 1025) : wpX_exact (fun r => wpY_exact (fun r' => r' = r ∧ i_Rel (k + 2) u v) v) u := by
  have I' := i_up I
  obtain ⟨K, c, g, h, cs, ws, rc, ro, la, le, tb, rfl, rfl, hK, hc, H, hcs⟩ := I
  exact fx_exact (fr_ok H hc hcs) (fy_exact H hc ⟨rfl, I'⟩)
theorem i_vc_continues {k : Nat} {u : SX} {v : SY} (I : i_Rel k u v) (hk : k + 2 ≤ 1025) : wpX_continues (fun r => wpY_continues (fun r' => r' = r ∧ i_Rel (k + 2) u v) v) u := by
  have I' := i_up I
  obtain ⟨K, c, g, h, cs, ws, rc, ro, la, le, tb, rfl, rfl, hK, hc, H, hcs⟩ := I
  exact fx_continues (fr_ok H hc hcs) (fy_continues H hc ⟨rfl, I'⟩)
end
