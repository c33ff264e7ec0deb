/-! the distance of two lists, from their heads; z is what a letter of y costs when x has ended -/
def ft_ne (a b : Nat) : Nat := if a = b then 0 else 1
def ft_ex (p : List Nat → Nat) (b z : Nat) : List Nat → Nat
  | [] => z
  | a :: x => min (p x + ft_ne a b) (min (ft_ex p b z x) (p (a :: x)) + 1)
def ft_rd (z : Nat) : List Nat → List Nat → Nat
  | [] => fun x => x.length
  | b :: y => ft_ex (ft_rd z y) b ((y.length + 1) * z)
theorem ft_rd_0 (z : Nat) (x : List Nat) : ft_rd z [] x = x.length := rfl
theorem ft_rd_n (z : Nat) (y : List Nat) : ft_rd z y [] = y.length * z := by
  cases y with
  | nil => exact (Nat.zero_mul z).symm
  | cons b y => rfl
theorem ft_rd_s (z b : Nat) (y : List Nat) (a : Nat) (x : List Nat) : ft_rd z (b :: y) (a :: x) = min (ft_rd z y x + ft_ne a b) (min (ft_rd z (b :: y) x) (ft_rd z y (a :: x)) + 1) := rfl
theorem ft_ne_le (a b : Nat) : ft_ne a b ≤ 1 := by unfold ft_ne; split <;> omega
theorem ft_ne_c (a b : Nat) : ft_ne a b = ft_ne b a := by
  unfold ft_ne
  by_cases h : a = b
  · rw [if_pos h, if_pos h.symm]
  · rw [if_neg h, if_neg (fun e => h e.symm)]
theorem ft_rd_ub {z : Nat} (hz : z ≤ 1) : ∀ y x : List Nat, ft_rd z y x ≤ y.length + x.length := by
  intro y
  induction y with
  | nil => intro x; rw [ft_rd_0]; omega
  | cons b y ihy =>
    intro x
    cases x with
    | nil =>
      rw [ft_rd_n]
      have := Nat.mul_le_mul_left (b :: y).length hz
      omega
    | cons a x =>
      have h := ihy x
      have n := ft_ne_le a b
      rw [ft_rd_s, List.length_cons, List.length_cons]
      omega
/-- one letter of x more costs at most one -/
theorem ft_A1 (z : Nat) (y : List Nat) (a : Nat) (x : List Nat) : ft_rd z y (a :: x) ≤ ft_rd z y x + 1 := by
  cases y with
  | nil => rw [ft_rd_0, ft_rd_0, List.length_cons]; omega
  | cons b y => rw [ft_rd_s]; omega
theorem ft_A2 (b : Nat) (y x : List Nat) : ft_rd 1 (b :: y) x ≤ ft_rd 1 y x + 1 := by
  cases x with
  | nil => rw [ft_rd_n, ft_rd_n, List.length_cons]; omega
  | cons a x => rw [ft_rd_s]; omega
theorem ft_A3 (z b : Nat) (y : List Nat) (a : Nat) (x : List Nat) : ft_rd z (b :: y) (a :: x) ≤ ft_rd z y x + ft_ne a b := by
  rw [ft_rd_s]; omega
theorem ft_glue (y2 x2 : List Nat) : ∀ y1 x1 : List Nat, ft_rd 1 (y1 ++ y2) (x1 ++ x2) ≤ ft_rd 1 y1 x1 + ft_rd 1 y2 x2 := by
  intro y1
  induction y1 with
  | nil =>
    intro x1
    induction x1 with
    | nil => show ft_rd 1 y2 x2 ≤ _; omega
    | cons a x1 ih =>
      have h := ft_A1 1 y2 a (x1 ++ x2)
      rw [ft_rd_0, List.length_cons]
      rw [ft_rd_0] at ih
      show ft_rd 1 y2 (a :: (x1 ++ x2)) ≤ _
      have ih' : ft_rd 1 y2 (x1 ++ x2) ≤ x1.length + ft_rd 1 y2 x2 := ih
      omega
  | cons b y1 ihy =>
    intro x1
    induction x1 with
    | nil =>
      have h := ft_A2 b (y1 ++ y2) x2
      have i : ft_rd 1 (y1 ++ y2) x2 ≤ ft_rd 1 y1 [] + ft_rd 1 y2 x2 := ihy []
      rw [ft_rd_n] at i ⊢
      show ft_rd 1 (b :: (y1 ++ y2)) x2 ≤ _
      rw [List.length_cons]
      omega
    | cons a x1 ih =>
      have i1 := ihy x1
      have i2 : ft_rd 1 (y1 ++ y2) (a :: (x1 ++ x2)) ≤ ft_rd 1 y1 (a :: x1) + ft_rd 1 y2 x2 := ihy (a :: x1)
      have i3 : ft_rd 1 (b :: (y1 ++ y2)) (x1 ++ x2) ≤ ft_rd 1 (b :: y1) x1 + ft_rd 1 y2 x2 := ih
      show ft_rd 1 (b :: (y1 ++ y2)) (a :: (x1 ++ x2)) ≤ _
      rw [ft_rd_s, ft_rd_s]
      omega
theorem ft_one (b a : Nat) : ft_rd 1 [b] [a] = ft_ne a b := by
  have := ft_ne_le a b
  rw [ft_rd_s]
  show min (0 + ft_ne a b) (min 1 1 + 1) = _
  omega
theorem ft_low (b a : Nat) : ∀ y x : List Nat, min (ft_rd 1 y x + ft_ne a b) (min (ft_rd 1 (y ++ [b]) x) (ft_rd 1 y (x ++ [a])) + 1) ≤ ft_rd 1 (y ++ [b]) (x ++ [a]) := by
  have nb := ft_ne_le a b
  intro y
  induction y with
  | nil =>
    intro x
    induction x with
    | nil =>
      have := ft_one b a
      have e : ft_rd 1 ([] ++ [b]) ([] ++ [a]) = ft_rd 1 [b] [a] := rfl
      rw [e, this, ft_rd_0, List.length_nil]
      omega
    | cons c x ih =>
      have a1 : ft_rd 1 [b] (c :: x) ≤ ft_rd 1 [] x + ft_ne c b := ft_A3 1 b [] c x
      have a2 := ft_A1 1 [b] c x
      have e : ft_rd 1 ([] ++ [b]) (c :: x ++ [a]) = min (ft_rd 1 [] (x ++ [a]) + ft_ne c b) (min (ft_rd 1 [b] (x ++ [a])) (ft_rd 1 [] (c :: (x ++ [a]))) + 1) := rfl
      have f : ft_rd 1 ([] ++ [b]) (x ++ [a]) = ft_rd 1 [b] (x ++ [a]) := rfl
      have f2 : ft_rd 1 ([] ++ [b]) x = ft_rd 1 [b] x := rfl
      have f3 : ft_rd 1 ([] ++ [b]) (c :: x) = ft_rd 1 [b] (c :: x) := rfl
      have f4 : ft_rd 1 [] (c :: x ++ [a]) = ft_rd 1 [] (c :: (x ++ [a])) := rfl
      rw [f, f2] at ih
      rw [e, f3, f4]
      simp only [ft_rd_0, List.length_cons, List.length_append, List.length_nil] at *
      omega
  | cons e y ihy =>
    intro x
    induction x with
    | nil =>
      have i1 := ihy []
      have a1 : ft_rd 1 (e :: y) [a] ≤ ft_rd 1 y [] + ft_ne a e := ft_A3 1 e y a []
      have a2 := ft_A2 e y [a]
      have e1 : ft_rd 1 (e :: y ++ [b]) ([] ++ [a]) = min (ft_rd 1 (y ++ [b]) [] + ft_ne a e) (min (ft_rd 1 (e :: (y ++ [b])) []) (ft_rd 1 (y ++ [b]) [a]) + 1) := rfl
      have f : ft_rd 1 (y ++ [b]) ([] ++ [a]) = ft_rd 1 (y ++ [b]) [a] := rfl
      have f2 : ft_rd 1 y ([] ++ [a]) = ft_rd 1 y [a] := rfl
      have f3 : ft_rd 1 (e :: y) ([] ++ [a]) = ft_rd 1 (e :: y) [a] := rfl
      have f4 : ft_rd 1 (e :: y ++ [b]) [] = ft_rd 1 (e :: (y ++ [b])) [] := rfl
      rw [f, f2] at i1
      rw [e1, f3, f4]
      simp only [ft_rd_n, List.length_cons, List.length_append, List.length_nil] at *
      omega
    | cons c x ihx =>
      have i1 := ihy x
      have i2 := ihy (c :: x)
      have a1 := ft_A3 1 e y c x
      have a2 := ft_A1 1 (e :: y) c x
      have a3 := ft_A2 e y (c :: x)
      have a4 := ft_A3 1 e (y ++ [b]) c x
      have a5 := ft_A1 1 (e :: (y ++ [b])) c x
      have a6 := ft_A2 e (y ++ [b]) (c :: x)
      have a7 := ft_A3 1 e y c (x ++ [a])
      have a8 := ft_A1 1 (e :: y) c (x ++ [a])
      have a9 := ft_A2 e y (c :: (x ++ [a]))
      have e1 : ft_rd 1 (e :: y ++ [b]) (c :: x ++ [a]) = min (ft_rd 1 (y ++ [b]) (x ++ [a]) + ft_ne c e) (min (ft_rd 1 (e :: (y ++ [b])) (x ++ [a])) (ft_rd 1 (y ++ [b]) (c :: (x ++ [a]))) + 1) := rfl
      have f1 : c :: x ++ [a] = c :: (x ++ [a]) := rfl
      have f2 : e :: y ++ [b] = e :: (y ++ [b]) := rfl
      rw [e1]
      rw [f1] at i2 ⊢
      rw [f2] at ihx ⊢
      omega
theorem ft_end (b a : Nat) (y x : List Nat) : ft_rd 1 (y ++ [b]) (x ++ [a]) = min (ft_rd 1 y x + ft_ne a b) (min (ft_rd 1 (y ++ [b]) x) (ft_rd 1 y (x ++ [a])) + 1) := by
  have h := ft_low b a y x
  have g1 := ft_glue [b] [a] y x
  have g2 : ft_rd 1 (y ++ [b]) (x ++ [a]) ≤ ft_rd 1 (y ++ [b]) x + 1 := by
    have := ft_glue [] [a] (y ++ [b]) x
    rw [List.append_nil] at this
    exact this
  have g3 : ft_rd 1 (y ++ [b]) (x ++ [a]) ≤ ft_rd 1 y (x ++ [a]) + 1 := by
    have := ft_glue [b] [] y (x ++ [a])
    rw [List.append_nil] at this
    exact this
  rw [ft_one] at g1
  omega
theorem ft_rev : ∀ y x : List Nat, ft_rd 1 y.reverse x.reverse = ft_rd 1 y x := by
  intro y
  induction y with
  | nil => intro x; rw [List.reverse_nil, ft_rd_0, ft_rd_0, List.length_reverse]
  | cons b y ihy =>
    intro x
    induction x with
    | nil => rw [List.reverse_nil, ft_rd_n, ft_rd_n, List.length_reverse]
    | cons a x ihx =>
      have i1 := ihy x
      have i2 := ihy (a :: x)
      rw [List.reverse_cons] at ihx i2
      rw [List.reverse_cons, List.reverse_cons, ft_end, ft_rd_s, i1, i2, ihx]
/-! with a free rest -/
theorem ft_R0 : ∀ (y x : List Nat), ft_rd 0 y x ≤ x.length := by
  intro y x
  induction x with
  | nil => rw [ft_rd_n]; omega
  | cons a x ih => have := ft_A1 0 y a x; rw [List.length_cons]; omega
theorem ft_R1 (z : List Nat) : ∀ y x : List Nat, ft_rd 0 (y ++ z) x ≤ ft_rd 1 y x := by
  intro y
  induction y with
  | nil => intro x; rw [ft_rd_0]; exact ft_R0 _ x
  | cons b y ihy =>
    intro x
    induction x with
    | nil => rw [ft_rd_n]; omega
    | cons a x ihx =>
      have i1 := ihy x
      have i2 := ihy (a :: x)
      have f2 : b :: y ++ z = b :: (y ++ z) := rfl
      rw [f2] at ihx ⊢
      rw [ft_rd_s, ft_rd_s]
      omega
theorem ft_R2 : ∀ y x : List Nat, ∃ j, j ≤ y.length ∧ ft_rd 1 (y.take j) x ≤ ft_rd 0 y x := by
  intro y
  induction y with
  | nil => intro x; exact ⟨0, Nat.le_refl _, Nat.le_refl _⟩
  | cons b y ihy =>
    intro x
    induction x with
    | nil => exact ⟨0, Nat.zero_le _, by rw [List.take_zero, ft_rd_0]; exact Nat.zero_le _⟩
    | cons a x ihx =>
      have e := ft_rd_s 0 b y a x
      obtain ⟨j1, h1, k1⟩ := ihy x
      obtain ⟨j2, h2, k2⟩ := ihy (a :: x)
      obtain ⟨j3, h3, k3⟩ := ihx
      have q1 := ft_A3 1 b (y.take j1) a x
      have q2 := ft_A2 b (y.take j2) (a :: x)
      have q3 := ft_A1 1 ((b :: y).take j3) a x
      by_cases c1 : ft_rd 0 (b :: y) (a :: x) = ft_rd 0 y x + ft_ne a b
      · exact ⟨j1 + 1, by rw [List.length_cons]; omega, by rw [List.take_succ_cons]; omega⟩
      · by_cases c2 : ft_rd 0 (b :: y) (a :: x) = ft_rd 0 (b :: y) x + 1
        · exact ⟨j3, h3, by omega⟩
        · exact ⟨j2 + 1, by rw [List.length_cons]; omega, by rw [List.take_succ_cons]; omega⟩
/-! lists of a function's values -/
def ft_rl (f : Nat → Nat) : Nat → List Nat
  | 0 => []
  | n + 1 => f n :: ft_rl f n
theorem ft_rl_s (f : Nat → Nat) (n : Nat) : ft_rl f (n + 1) = f n :: ft_rl f n := rfl
theorem ft_rl_len (f : Nat → Nat) (n : Nat) : (ft_rl f n).length = n := by
  induction n with
  | zero => rfl
  | succ n ih => rw [ft_rl_s, List.length_cons, ih]
theorem ft_rl_eq (f : Nat → Nat) (n : Nat) : ft_rl f n = ((List.range n).map f).reverse := by
  induction n with
  | zero => rfl
  | succ n ih => rw [ft_rl_s, ih, List.range_succ, List.map_append, List.reverse_append]; rfl
theorem ft_rl_rev (f : Nat → Nat) (n : Nat) : ft_rl (fun i => f (n - 1 - i)) n = (ft_rl f n).reverse := by
  rw [ft_rl_eq, ft_rl_eq, List.reverse_reverse]
  apply List.ext_getElem
  · simp
  · intro i h1 h2
    simp at h1 h2 ⊢
    congr 1
    omega
theorem ft_take (f : Nat → Nat) {n j : Nat} (h : j ≤ n) : (ft_rl f n).reverse.take j = (ft_rl f j).reverse := by
  rw [ft_rl_eq, ft_rl_eq, List.reverse_reverse, List.reverse_reverse, ← List.map_take, List.take_range, Nat.min_eq_left h]
/-- the component's table: t letters of w, j of q, each from the end -/
def ft_R (z : Nat) (q : Nat → Nat) (m : Nat) (w : Nat → Nat) (n t j : Nat) : Nat := ft_rd z (ft_rl (fun i => w (n - 1 - i)) t) (ft_rl (fun i => q (m - 1 - i)) j)
theorem ft_R_0 (z : Nat) (q : Nat → Nat) (m : Nat) (w : Nat → Nat) (n j : Nat) : ft_R z q m w n 0 j = j := ft_rl_len _ j
theorem ft_R_n (z : Nat) (q : Nat → Nat) (m : Nat) (w : Nat → Nat) (n t : Nat) : ft_R z q m w n t 0 = t * z := by
  unfold ft_R
  show ft_rd z _ [] = _
  rw [ft_rd_n, ft_rl_len]
theorem ft_R_s (z : Nat) (q : Nat → Nat) (m : Nat) (w : Nat → Nat) (n t j : Nat) : ft_R z q m w n (t + 1) (j + 1) = min (ft_R z q m w n t j + ft_ne (q (m - 1 - j)) (w (n - 1 - t))) (min (ft_R z q m w n (t + 1) j) (ft_R z q m w n t (j + 1)) + 1) := rfl
theorem ft_R_ub {z : Nat} (hz : z ≤ 1) (q : Nat → Nat) (m : Nat) (w : Nat → Nat) (n t j : Nat) : ft_R z q m w n t j ≤ t + j := by
  have := ft_rd_ub hz (ft_rl (fun i => w (n - 1 - i)) t) (ft_rl (fun i => q (m - 1 - i)) j)
  rw [ft_rl_len, ft_rl_len] at this
  exact this
/-- the reference's table: i letters of q, j of w, from the start -/
def ft_D (q w : Nat → Nat) (i j : Nat) : Nat := ft_rd 1 (ft_rl w j) (ft_rl q i)
theorem ft_D_0 (q w : Nat → Nat) (j : Nat) : ft_D q w 0 j = j := by
  unfold ft_D
  show ft_rd 1 _ [] = _
  rw [ft_rd_n, ft_rl_len, Nat.mul_one]
theorem ft_D_n (q w : Nat → Nat) (i : Nat) : ft_D q w i 0 = i := ft_rl_len q i
theorem ft_D_s (q w : Nat → Nat) (i j : Nat) : ft_D q w (i + 1) (j + 1) = min (ft_D q w i j + ft_ne (q i) (w j)) (min (ft_D q w i (j + 1)) (ft_D q w (i + 1) j) + 1) := rfl
theorem ft_D_ub (q w : Nat → Nat) (i j : Nat) : ft_D q w i j ≤ j + i := by
  have := ft_rd_ub (z := 1) (Nat.le_refl 1) (ft_rl w j) (ft_rl q i)
  rw [ft_rl_len, ft_rl_len] at this
  exact this
def ft_bs (D : Nat → Nat) : Nat → Nat
  | 0 => 9
  | j + 1 => min (ft_bs D j) (D j)
theorem ft_bs_s (D : Nat → Nat) (j : Nat) : ft_bs D (j + 1) = min (ft_bs D j) (D j) := rfl
theorem ft_bs_le (D : Nat → Nat) (n : Nat) : ∀ j, j < n → ft_bs D n ≤ D j := by
  induction n with
  | zero => intro j h; omega
  | succ n ih =>
    intro j h
    rw [ft_bs_s]
    by_cases e : j = n
    · subst e; omega
    · have := ih j (by omega); omega
theorem ft_bs_9 (D : Nat → Nat) (n : Nat) : ft_bs D n ≤ 9 := by
  induction n with
  | zero => exact Nat.le_refl 9
  | succ n ih => rw [ft_bs_s]; omega
theorem ft_bs_ex (D : Nat → Nat) (n : Nat) : ft_bs D n = 9 ∨ ∃ j, j < n ∧ ft_bs D n = D j := by
  induction n with
  | zero => exact Or.inl rfl
  | succ n ih =>
    rw [ft_bs_s]
    by_cases c : D n ≤ ft_bs D n
    · exact Or.inr ⟨n, by omega, by omega⟩
    · cases ih with
      | inl h => exact Or.inl (by omega)
      | inr h => obtain ⟨j, h1, h2⟩ := h; exact Or.inr ⟨j, by omega, by omega⟩
theorem ft_edit (q : Nat → Nat) (m : Nat) (w : Nat → Nat) (n : Nat) : ft_R 1 q m w n n m = ft_D q w m n := by
  unfold ft_R ft_D
  rw [ft_rl_rev, ft_rl_rev, ft_rev]
theorem ft_reach (q : Nat → Nat) {m : Nat} (hm : m ≤ 6) (w : Nat → Nat) (n : Nat) : ft_bs (ft_D q w m) (n + 1) = ft_R 0 q m w n n m := by
  have e : ft_R 0 q m w n n m = ft_rd 0 (ft_rl w n).reverse (ft_rl q m).reverse := by
    unfold ft_R
    rw [ft_rl_rev, ft_rl_rev]
  have d : ∀ j, j ≤ n → ft_D q w m j = ft_rd 1 ((ft_rl w n).reverse.take j) (ft_rl q m).reverse := fun j hj => by
    rw [ft_take w hj, ft_rev]
    rfl
  have lo : ft_bs (ft_D q w m) (n + 1) ≤ ft_R 0 q m w n n m := by
    obtain ⟨j, h1, h2⟩ := ft_R2 (ft_rl w n).reverse (ft_rl q m).reverse
    rw [List.length_reverse, ft_rl_len] at h1
    have := ft_bs_le (ft_D q w m) (n + 1) j (by omega)
    rw [d j h1] at this
    rw [e]
    omega
  have hi : ∀ j, j ≤ n → ft_R 0 q m w n n m ≤ ft_D q w m j := fun j hj => by
    rw [e, d j hj]
    have := ft_R1 ((ft_rl w n).reverse.drop j) ((ft_rl w n).reverse.take j) (ft_rl q m).reverse
    rw [List.take_append_drop] at this
    exact this
  have h0 := hi 0 (Nat.zero_le n)
  rw [ft_D_n] at h0
  cases ft_bs_ex (ft_D q w m) (n + 1) with
  | inl h => omega
  | inr h =>
    obtain ⟨j, h1, h2⟩ := h
    have := hi j (by omega)
    omega
