/-! counts and least ones -/
noncomputable def ft_cn (p : Nat → Prop) : Nat → Nat
  | 0 => 0
  | n + 1 => ft_cn p n + @ite Nat (p n) (Classical.propDecidable (p n)) 1 0
theorem ft_cn_t {p : Nat → Prop} {n : Nat} (h : p n) : ft_cn p (n + 1) = ft_cn p n + 1 := by
  show ft_cn p n + @ite Nat (p n) (Classical.propDecidable (p n)) 1 0 = _
  rw [if_pos h]
theorem ft_cn_f {p : Nat → Prop} {n : Nat} (h : ¬ p n) : ft_cn p (n + 1) = ft_cn p n := by
  show ft_cn p n + @ite Nat (p n) (Classical.propDecidable (p n)) 1 0 = _
  rw [if_neg h]; rfl
theorem ft_cn_cg {p r : Nat → Prop} {n : Nat} (h : ∀ v, v < n → (p v ↔ r v)) : ft_cn p n = ft_cn r n := by
  induction n with
  | zero => rfl
  | succ n ih =>
    have e := ih (fun v hv => h v (by omega))
    by_cases c : p n
    · rw [ft_cn_t c, ft_cn_t ((h n (by omega)).mp c), e]
    · rw [ft_cn_f c, ft_cn_f (fun z => c ((h n (by omega)).mpr z)), e]
noncomputable def ft_or (p : Nat → Prop) (x : Nat → Int32) : Nat → Int32
  | 0 => 0
  | n + 1 => @ite Int32 (p n) (Classical.propDecidable (p n)) (ft_or p x n ||| x n) (ft_or p x n)
theorem ft_or_t {p : Nat → Prop} {x : Nat → Int32} {n : Nat} (h : p n) : ft_or p x (n + 1) = ft_or p x n ||| x n := if_pos h
theorem ft_or_f {p : Nat → Prop} {x : Nat → Int32} {n : Nat} (h : ¬ p n) : ft_or p x (n + 1) = ft_or p x n := if_neg h
def ft_mn (s : Nat) (D : Nat → Nat) : Nat → Nat
  | 0 => s
  | n + 1 => min (ft_mn s D n) (D n)
theorem ft_mn_s (s : Nat) (D : Nat → Nat) (n : Nat) : ft_mn s D (n + 1) = min (ft_mn s D n) (D n) := rfl
theorem ft_mn_le (s : Nat) (D : Nat → Nat) (n : Nat) : ft_mn s D n ≤ s := by
  induction n with
  | zero => exact Nat.le_refl s
  | succ n ih => rw [ft_mn_s]; omega
theorem ft_mn_bs (s : Nat) (hs : s ≤ 9) (D : Nat → Nat) (n : Nat) : ft_mn s D n = min s (ft_bs D n) := by
  induction n with
  | zero => show s = min s 9; omega
  | succ n ih => rw [ft_mn_s, ft_bs_s, ih]; omega
def ft_bf (re : Nat → Nat) (ws : Nat → Int32) (pl : Nat → Nat) (v w : Nat) : Prop := re v < re w ∨ re v = re w ∧ (¬ ws v ≤ ws w ∨ ws v = ws w ∧ pl v < pl w)
theorem ft_p31 : (15625 : Nat) < 2 ^ 31 := by decide
theorem ft_fuel {d n : Nat} (h : d < n) : ∃ k, n = k + 1 := ⟨n - 1, by omega⟩
/-! the component's small methods -/
theorem fx_5 : ¬ (5 : Int32) = 0 := by decide
theorem fx_b {f : Nat → Nat} (hf : ∀ i, f i < 4) {k : Nat} (hk : k ≤ 6) : ft_cd f k < 2 ^ 31 := Nat.lt_trans (ft_cd_lt hf hk) ft_p31
theorem fx_d5 {f : Nat → Nat} (hf : ∀ i, f i < 4) {k : Nat} (hk : k < 6) : nI (ft_cd f (k + 1)) / 5 = nI (ft_cd f k) := by
  have := pk_div (a := ft_cd f (k + 1)) (d := 5) (fx_b hf hk) (by decide) (by decide)
  rw [ft_cd_div hf] at this
  exact this
theorem fx_r5 {f : Nat → Nat} (hf : ∀ i, f i < 4) {k : Nat} (hk : k < 6) : nI (ft_cd f (k + 1)) - nI (ft_cd f (k + 1)) / 5 * 5 = nI (f k + 1) := by
  have := pk_rem (a := ft_cd f (k + 1)) (d := 5) (fx_b hf hk) (by decide) (by decide)
  rw [ft_cd_mod hf] at this
  exact this
theorem fx_n0 {f : Nat → Nat} (hf : ∀ i, f i < 4) {k : Nat} (hk : k < 6) : ¬ nI (ft_cd f (k + 1)) = 0 := nI_ne0 (ft_cd_pos f k) (fx_b hf hk)
theorem fx_lengthOf_4 {post : Int32 → Prop} {f : Nat → Nat} (hf : ∀ i, f i < 4) {m : Nat} (hm : m ≤ 6) (hp : post (nI m)) : ∀ k j n, j + k = m → k < n → wX_lengthOf_4 post n (nI (ft_cd f k)) (nI j) := by
  intro k
  induction k with
  | zero =>
    intro j n hj hn
    obtain ⟨n, rfl⟩ := ft_fuel hn
    have e : j = m := by omega
    subst e
    exact br_c (fun _ => hp) (fun _ => br_t rfl hp)
  | succ k ih =>
    intro j n hj hn
    obtain ⟨n, rfl⟩ := ft_fuel hn
    exact br_f (nI_ge (b := 6) (by omega) (by decide)) (br_f (fx_n0 hf (by omega)) ⟨fx_5, nm_r (fx_d5 hf (by omega)) (nm_r (nI_1 j) (ih (j + 1) n (by omega) (by omega)))⟩)
theorem fx_lengthOf {post : Int32 → Prop} {f : Nat → Nat} (hf : ∀ i, f i < 4) {m : Nat} (hm : m ≤ 6) (hp : post (nI m)) : wpX_lengthOf post (nI (ft_cd f m)) := ⟨m + 1, fx_lengthOf_4 hf hm hp m 0 (m + 1) (by omega) (by omega)⟩
theorem fx_lastLetter {post : Int32 → Prop} {f : Nat → Nat} (hf : ∀ i, f i < 4) {k : Nat} (hk : k < 6) (hp : post (nI (f k))) : wpX_lastLetter post (nI (ft_cd f (k + 1))) := by
  refine ⟨fx_5, ?_⟩
  rw [fx_r5 hf hk, nI_pred]
  exact hp
theorem fx_place_4 {post : Int32 → Prop} {f : Nat → Nat} (hf : ∀ i, f i < 4) {m : Nat} (hp : post (nI (ft_pl f m))) : ∀ d k n, m + k + d = 6 → d < n → wX_alphabeticPlace_4 post n (nI (ft_P (ft_pd f m) (m + k))) (nI k) := by
  intro d
  induction d with
  | zero =>
    intro k n hk hn
    obtain ⟨n, rfl⟩ := ft_fuel hn
    have e : ft_P (ft_pd f m) (m + k) = ft_pl f m := by rw [show m + k = 6 by omega]; rfl
    rw [e]
    refine br_c (fun _ => hp) (fun h => br_t ?_ hp)
    cases m with
    | zero => exact absurd (nI_le (a := 6) (b := k) (by omega) (by omega)) h
    | succ m =>
      have l := ft_P_low (f := f) m 5
      have b := ft_pl_lt hf (m + 1)
      exact nI_le (a := 3125) (b := ft_pl f (m + 1)) l (by omega)
  | succ d ih =>
    intro k n hk hn
    obtain ⟨n, rfl⟩ := ft_fuel hn
    have b : ft_P (ft_pd f m) (m + k) < 3125 := Nat.lt_of_lt_of_le (ft_P_pw (ft_pd_lt hf m) (m + k)) (show 5 ^ (m + k) ≤ 5 ^ 5 from Nat.pow_le_pow_right (by decide) (by omega))
    have e : nI (ft_P (ft_pd f m) (m + k)) * 5 = nI (ft_P (ft_pd f m) (m + (k + 1))) := by
      have := pk_mul (ft_P (ft_pd f m) (m + k)) 5
      rw [← ft_pd_s f (by omega)] at this
      exact this
    exact br_f (nI_ge (b := 6) (by omega) (by decide)) (br_f (nI_ge (b := 3125) b (by decide)) (nm_r e (nm_r (nI_1 k) (ih (k + 1) n (by omega) (by omega)))))
theorem fx_place {post : Int32 → Prop} {f : Nat → Nat} (hf : ∀ i, f i < 4) {m : Nat} (hm : m ≤ 6) {x : Int32} (hx : x = nI (ft_cd f m)) (hp : post (nI (ft_pl f m))) : wpX_alphabeticPlace post x := by
  have := fx_place_4 hf hp (6 - m) 0 (6 - m + 1) (by omega) (by omega)
  have e : ft_P (ft_pd f m) (m + 0) = ft_cd f m := ft_pd_cd f m m (Nat.le_refl m)
  rw [e, ← hx] at this
  exact ⟨_, this⟩
/-! one row more of the table -/
theorem fx_extend_23 {post : SX → Prop} {lm dc qc ct : Int32} {cs ws rc : Nat → Int32} {q : Nat → Nat} (hq : ∀ i, q i < 4) {m b : Nat} (hm : m ≤ 6) (hb : b < 4) {P E : Nat → Nat} (hP : ∀ j, j ≤ m → P j < 1000) (hE : ∀ j, j ≤ m → E j < 1000) (hrec : ∀ j, j < m → E (j + 1) = min (P j + ft_ne (q (m - 1 - j)) b) (min (E j) (P (j + 1)) + 1)) (hpost : ∀ ro, (∀ j, j ≤ m → ro j = nI (E j)) → post (lm, dc, qc, ct, cs, ws, rc, ro)) : ∀ (d k n : Nat) (ro : Nat → Int32), k + d = m → d < n → (∀ j, j ≤ k → ro j = nI (E j)) → (∀ j, k < j → j ≤ m → ro j = nI (P j)) → wX_extendRow_23 post (nI (b + 1)) lm dc qc ct n (nI (P k)) (nI (ft_cd q d)) (nI (k + 1)) cs ws rc ro := by
  intro d
  induction d with
  | zero =>
    intro k n ro hk hn h1 h2
    obtain ⟨n, rfl⟩ := ft_fuel hn
    have e : k = m := by omega
    subst e
    exact br_c (fun _ => hpost ro h1) (fun _ => br_t rfl (hpost ro h1))
  | succ d ih =>
    intro k n ro hk hn h1 h2
    obtain ⟨n, rfl⟩ := ft_fuel hn
    have p1 := hP k (by omega)
    have p2 := hP (k + 1) (by omega)
    have p3 := hE k (by omega)
    have p4 := hE (k + 1) (by omega)
    have nb := ft_ne_le (q d) b
    have rr := hrec k (by omega)
    rw [show m - 1 - k = d by omega] at rr
    have hq4 := hq d
    have e6 : ro (nI (k + 1)).toNatClampNeg = nI (P (k + 1)) := by rw [nI_clamp (by omega)]; exact h2 _ (by omega) (by omega)
    have e7 : ro (nI (k + 1) - 1).toNatClampNeg + 1 = nI (E k + 1) := by rw [nI_pred, nI_clamp (by omega), h1 k (Nat.le_refl k), nI_1]
    have s105 : wX_extendRow_105 post (wX_extendRow_23 post (nI (b + 1)) lm dc qc ct n) (nI (b + 1)) (nI (ft_cd q (d + 1))) (nI (k + 1)) (nI (P (k + 1))) (nI (E (k + 1))) lm dc qc ct cs ws rc ro := by
      refine ⟨vp_in_nI (by omega) (by decide), nm_e ⟨fx_5, nm_r (fx_d5 hq (by omega)) (nm_r (nI_1 (k + 1)) (ih (k + 1) n _ (by omega) (by omega) ?_ ?_))⟩⟩
      · intro j hj
        rw [nI_clamp (by omega)]
        by_cases e : j = k + 1
        · subst e; exact pk_us
        · rw [pk_un e]; exact h1 j (by omega)
      · intro j hj hj2
        rw [nI_clamp (by omega), pk_un (by omega)]
        exact h2 j (by omega) hj2
    have s76 : ∀ Z, Z = min (P k + ft_ne (q d) b) (P (k + 1) + 1) → wX_extendRow_76 post (wX_extendRow_23 post (nI (b + 1)) lm dc qc ct n) (nI (b + 1)) (nI (ft_cd q (d + 1))) (nI (k + 1)) (nI (P (k + 1))) (nI Z) lm dc qc ct cs ws rc ro := by
      intro Z hZ
      have vi : vp_in (nI (k + 1) - 1) 7 := by rw [nI_pred]; exact vp_in_nI (by omega) (by decide)
      refine ⟨vi, pk_le Z (E k + 1) (fun h => ?_) (fun h => ⟨vi, nm_r e7 ?_⟩) rfl e7 (by omega) (by omega)⟩
      · have e : Z = E (k + 1) := by omega
        rw [e]; exact s105
      · have e : E k + 1 = E (k + 1) := by omega
        rw [e]; exact s105
    have s59 : wX_extendRow_59 post (wX_extendRow_23 post (nI (b + 1)) lm dc qc ct n) (nI (b + 1)) (nI (ft_cd q (d + 1))) (nI (k + 1)) (nI (P (k + 1))) (nI (P k + ft_ne (q d) b)) lm dc qc ct cs ws rc ro :=
      pk_le (P k + ft_ne (q d) b) (P (k + 1) + 1) (fun h => s76 _ (by omega)) (fun h => nm_r (nI_1 _) (s76 _ (by omega))) rfl (nI_1 _) (by omega) (by omega)
    refine br_f (nI_ge (b := 7) (by omega) (by decide)) (br_f (fx_n0 hq (by omega)) ⟨vp_in_nI (by omega) (by decide), nm_r e6 ⟨fx_5, pk_eq (q d + 1) (b + 1) (fun h => ?_) (fun h => ?_) (fx_r5 hq (by omega)) rfl (by omega) (by omega)⟩⟩)
    · have e : ft_ne (q d) b = 0 := if_pos (by omega)
      rw [e] at s59
      exact s59
    · have e : ft_ne (q d) b = 1 := if_neg (by omega)
      rw [e, ← nI_1 (P k)] at s59
      exact s59
theorem fx_extendRow {post : SX → Prop} {lm dc qc ct : Int32} {cs ws rc ro : Nat → Int32} {q : Nat → Nat} (hq : ∀ i, q i < 4) {m b : Nat} (hm : m ≤ 6) (hb : b < 4) {P E : Nat → Nat} {x z : Int32} (hqc : qc = nI (ft_cd q m)) (hx : x = nI (b + 1)) (hz : z = nI (E 0)) (hro : ∀ j, j ≤ m → ro j = nI (P j)) (hP : ∀ j, j ≤ m → P j < 1000) (hE : ∀ j, j ≤ m → E j < 1000) (hrec : ∀ j, j < m → E (j + 1) = min (P j + ft_ne (q (m - 1 - j)) b) (min (E j) (P (j + 1)) + 1)) (hpost : ∀ ro, (∀ j, j ≤ m → ro j = nI (E j)) → post (lm, dc, qc, ct, cs, ws, rc, ro)) : wpX_extendRow post (lm, dc, qc, ct, cs, ws, rc, ro) x z := by
  subst hx hz hqc
  refine nm_r (hro 0 (Nat.zero_le m)) (nm_e ⟨m + 1, fx_extend_23 hq hm hb hP hE hrec hpost m 0 (m + 1) _ (by omega) (by omega) ?_ ?_⟩)
  · intro j hj
    have e : j = 0 := by omega
    subst e
    exact pk_us
  · intro j hj hj2
    rw [pk_un (by omega)]
    exact hro j hj2
