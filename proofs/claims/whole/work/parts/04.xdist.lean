theorem fx_qd_26 {post : Int32 → SX → Prop} {lm dc ct : Int32} {cs ws rc : Nat → Int32} {q w : Nat → Nat} (hq : ∀ i, q i < 4) (hw : ∀ i, w i < 4) {m L z : Nat} (hm : m ≤ 6) (hL : L ≤ 6) (hz : z ≤ 1) (hpost : ∀ ro, post (nI (ft_R z q m w L L m)) (lm, dc, nI (ft_cd q m), ct, cs, ws, rc, ro)) : ∀ (d t n : Nat) (ro : Nat → Int32), t + d = L → d < n → (∀ j, j ≤ m → ro j = nI (ft_R z q m w L t j)) → wX_queryDistance_26 post (nI z) n (nI (ft_cd w d)) (nI (t + 1)) lm dc (nI (ft_cd q m)) ct cs ws rc ro := by
  intro d
  induction d with
  | zero =>
    intro t n ro ht hn h1
    obtain ⟨n, rfl⟩ := ft_fuel hn
    have e : t = L := by omega
    subst e
    have f : wX_queryDistance_58 post lm dc (nI (ft_cd q m)) ct cs ws rc ro := by
      refine fx_lengthOf hq hm ⟨vp_in_nI (by omega) (by decide), ?_⟩
      rw [nI_clamp (by omega), h1 m (Nat.le_refl m)]
      exact hpost ro
    exact br_c (fun _ => f) (fun _ => br_t rfl f)
  | succ d ih =>
    intro t n ro ht hn h1
    obtain ⟨n, rfl⟩ := ft_fuel hn
    refine br_f (nI_nlt (a := 6) (b := t + 1) (by omega) (by decide)) (br_f (fx_n0 hw (by omega)) ⟨fx_5, fx_extendRow hq hm (hw d) (P := ft_R z q m w L t) (E := ft_R z q m w L (t + 1)) rfl (fx_r5 hw (by omega)) ?_ h1 ?_ ?_ ?_ (fun ro' h' => ⟨fx_5, nm_r (fx_d5 hw (by omega)) (nm_r (nI_1 (t + 1)) (ih (t + 1) n ro' (by omega) (by omega) h'))⟩)⟩)
    · rw [ft_R_n]; exact pk_mul _ _
    · intro j hj
      have := ft_R_ub hz q m w L t j
      omega
    · intro j hj
      have := ft_R_ub hz q m w L (t + 1) j
      omega
    · intro j hj
      rw [ft_R_s, show L - 1 - t = d by omega]
theorem fx_qd_2 {post : Int32 → SX → Prop} {lm dc ct : Int32} {cs ws rc : Nat → Int32} {q w : Nat → Nat} (hq : ∀ i, q i < 4) (hw : ∀ i, w i < 4) {m L z : Nat} (hm : m ≤ 6) (hL : L ≤ 6) (hz : z ≤ 1) (hpost : ∀ ro, post (nI (ft_R z q m w L L m)) (lm, dc, nI (ft_cd q m), ct, cs, ws, rc, ro)) : ∀ (d i n : Nat) (ro : Nat → Int32), i + d = 7 → d < n → (∀ j, j < i → ro j = nI j) → wX_queryDistance_2 post (nI (ft_cd w L)) (nI z) lm dc (nI (ft_cd q m)) ct n (nI i) cs ws rc ro := by
  intro d
  induction d with
  | zero =>
    intro i n ro hi hn h1
    obtain ⟨n, rfl⟩ := ft_fuel hn
    refine br_t (nI_le (a := 7) (by omega) (by omega)) ⟨L + 1, fx_qd_26 hq hw hm hL hz hpost L 0 (L + 1) ro (by omega) (by omega) ?_⟩
    intro j hj
    rw [ft_R_0]
    exact h1 j (by omega)
  | succ d ih =>
    intro i n ro hi hn h1
    obtain ⟨n, rfl⟩ := ft_fuel hn
    refine br_f (nI_ge (b := 7) (by omega) (by decide)) ⟨vp_in_nI (by omega) (by decide), nm_e (nm_r (nI_1 i) (ih (i + 1) n _ (by omega) (by omega) ?_))⟩
    intro j hj
    rw [nI_clamp (by omega)]
    by_cases e : j = i
    · subst e; exact pk_us
    · rw [pk_un e]; exact h1 j (by omega)
theorem fx_queryDistance {post : Int32 → SX → Prop} {lm dc ct : Int32} {cs ws rc ro : Nat → Int32} {q w : Nat → Nat} (hq : ∀ i, q i < 4) (hw : ∀ i, w i < 4) {m L : Nat} (z : Nat) (hm : m ≤ 6) (hL : L ≤ 6) (hz : z ≤ 1) {x y qc : Int32} (hqc : qc = nI (ft_cd q m)) (hx : x = nI (ft_cd w L)) (hy : y = nI z) (hpost : ∀ ro, post (nI (ft_R z q m w L L m)) (lm, dc, qc, ct, cs, ws, rc, ro)) : wpX_queryDistance post (lm, dc, qc, ct, cs, ws, rc, ro) x y := by
  subst hx hy hqc
  exact ⟨8, fx_qd_2 hq hw hm hL hz hpost 7 0 8 ro (by omega) (by omega) (fun j hj => absurd hj (by omega))⟩
/-! what holds of a dictionary: wd l its lists, ln l their lengths, q and m the query -/
def fx_ok (wd : Nat → Nat → Nat) (ln : Nat → Nat) (q : Nat → Nat) (m c : Nat) (cs : Nat → Int32) : Prop := (∀ i, q i < 4) ∧ m ≤ 6 ∧ (∀ l i, wd l i < 4) ∧ (∀ l, ln l ≤ 6) ∧ c ≤ 12 ∧ ∀ l, l < 12 → cs l = nI (ft_cd (wd l) (ln l))
def ft_re (wd : Nat → Nat → Nat) (ln : Nat → Nat) (q : Nat → Nat) (m l : Nat) : Nat := ft_R 0 q m (wd l) (ln l) (ln l) m
def ft_ed (wd : Nat → Nat → Nat) (ln : Nat → Nat) (q : Nat → Nat) (m l : Nat) : Nat := ft_R 1 q m (wd l) (ln l) (ln l) m
section
variable {lm dc : Int32} {cs ws : Nat → Int32} {wd : Nat → Nat → Nat} {ln q : Nat → Nat} {m c : Nat}
theorem fx_re_ub (H : fx_ok wd ln q m c cs) (l : Nat) : ft_re wd ln q m l ≤ 12 := by
  have a := ft_R_ub (z := 0) (by decide) q m (wd l) (ln l) (ln l) m
  have b := H.2.2.2.1 l
  have d := H.2.1
  unfold ft_re
  omega
theorem fx_ed_ub (H : fx_ok wd ln q m c cs) (l : Nat) : ft_ed wd ln q m l ≤ 12 := by
  have a := ft_R_ub (z := 1) (by decide) q m (wd l) (ln l) (ln l) m
  have b := H.2.2.2.1 l
  have d := H.2.1
  unfold ft_ed
  omega
theorem fx_mr_2 {post : SX → Prop} (H : fx_ok wd ln q m c cs) (hpost : ∀ rc ro, (∀ j, j < c → rc j = nI (ft_re wd ln q m j)) → post (lm, dc, nI (ft_cd q m), nI c, cs, ws, rc, ro)) : ∀ (d i n : Nat) (rc ro : Nat → Int32), i + d = c → d < n → (∀ j, j < i → rc j = nI (ft_re wd ln q m j)) → wX_measureReach_2 post n (nI i) lm dc (nI (ft_cd q m)) (nI c) cs ws rc ro := by
  have hc := H.2.2.2.2.1
  intro d
  induction d with
  | zero =>
    intro i n rc ro hi hn h1
    obtain ⟨n, rfl⟩ := ft_fuel hn
    have e : i = c := by omega
    subst e
    exact br_t (nI_le (Nat.le_refl i) (by omega)) (hpost rc ro h1)
  | succ d ih =>
    intro i n rc ro hi hn h1
    obtain ⟨n, rfl⟩ := ft_fuel hn
    have vi : vp_in (nI i) 12 := vp_in_nI (by omega) (by decide)
    have ex : cs (nI i).toNatClampNeg = nI (ft_cd (wd i) (ln i)) := by rw [nI_clamp (by omega)]; exact H.2.2.2.2.2 i (by omega)
    refine br_f (nI_ge (by omega) (by omega)) ⟨vi, fx_queryDistance H.1 (H.2.2.1 i) 0 H.2.1 (H.2.2.2.1 i) (by decide) rfl ex rfl (fun ro' => ⟨vi, nm_e (nm_r (nI_1 i) (ih (i + 1) n _ ro' (by omega) (by omega) ?_))⟩)⟩
    intro j hj
    rw [nI_clamp (by omega)]
    by_cases e : j = i
    · subst e; exact pk_us
    · rw [pk_un e]; exact h1 j (by omega)
theorem fx_measureReach {post : SX → Prop} (H : fx_ok wd ln q m c cs) {rc ro : Nat → Int32} (hpost : ∀ rc ro, (∀ j, j < c → rc j = nI (ft_re wd ln q m j)) → post (lm, dc, nI (ft_cd q m), nI c, cs, ws, rc, ro)) : wpX_measureReach post (lm, dc, nI (ft_cd q m), nI c, cs, ws, rc, ro) :=
  ⟨c + 1, fx_mr_2 H hpost c 0 (c + 1) rc ro (by omega) (by omega) (fun j hj => absurd hj (by omega))⟩
theorem fx_offered_8 {post : Int32 → SX → Prop} (H : fx_ok wd ln q m c cs) {K : Nat} (hK : K ≤ 3) {rc ro : Nat → Int32} (h1 : ∀ j, j < c → rc j = nI (ft_re wd ln q m j)) (hpost : post (nI (ft_cn (fun l => ft_re wd ln q m l ≤ K) c)) (nI K, dc, nI (ft_cd q m), nI c, cs, ws, rc, ro)) : ∀ d i n, i + d = c → d < n → wX_offered_8 post (nI K) dc (nI (ft_cd q m)) (nI c) cs ws rc ro n (nI (ft_cn (fun l => ft_re wd ln q m l ≤ K) i)) (nI i) := by
  have hc := H.2.2.2.2.1
  intro d
  induction d with
  | zero =>
    intro i n hi hn
    obtain ⟨n, rfl⟩ := ft_fuel hn
    have e : i = c := by omega
    subst e
    exact br_t (nI_le (Nat.le_refl i) (by omega)) hpost
  | succ d ih =>
    intro i n hi hn
    obtain ⟨n, rfl⟩ := ft_fuel hn
    have vi : vp_in (nI i) 12 := vp_in_nI (by omega) (by decide)
    have ex : rc (nI i).toNatClampNeg = nI (ft_re wd ln q m i) := by rw [nI_clamp (by omega)]; exact h1 i (by omega)
    have ub := fx_re_ub H i
    have I := ih (i + 1) n (by omega) (by omega)
    refine br_f (nI_ge (by omega) (by omega)) ⟨vi, pk_lt K (ft_re wd ln q m i) (fun h => nm_r (nI_1 i) ?_) (fun h => nm_r (nI_1 _) (nm_r (nI_1 i) ?_)) rfl ex (by omega) (by omega)⟩
    · rw [ft_cn_f (by omega)] at I
      exact I
    · rw [ft_cn_t (by omega)] at I
      exact I
theorem fx_offered {post : Int32 → SX → Prop} (H : fx_ok wd ln q m c cs) {K : Nat} (hK : K ≤ 3) {rc ro : Nat → Int32} (hpost : ∀ rc ro, post (nI (ft_cn (fun l => ft_re wd ln q m l ≤ K) c)) (nI K, dc, nI (ft_cd q m), nI c, cs, ws, rc, ro)) : wpX_offered post (nI K, dc, nI (ft_cd q m), nI c, cs, ws, rc, ro) :=
  fx_measureReach H (fun rc ro h => ⟨c + 1, fx_offered_8 H hK h (hpost rc ro) c 0 (c + 1) (by omega) (by omega)⟩)
theorem fx_nearest_9 {post : Int32 → SX → Prop} (H : fx_ok wd ln q m c cs) {K : Nat} (hK : K ≤ 3) {rc : Nat → Int32} (hT : ft_mn (K + 1) (ft_ed wd ln q m) c ≤ K → ∀ ro, post (nI (ft_mn (K + 1) (ft_ed wd ln q m) c)) (nI K, dc, nI (ft_cd q m), nI c, cs, ws, rc, ro)) (hF : K < ft_mn (K + 1) (ft_ed wd ln q m) c → ∀ ro, post (-4) (nI K, dc, nI (ft_cd q m), nI c, cs, ws, rc, ro)) : ∀ d i n ro, i + d = c → d < n → wX_nearest_9 post n (nI (ft_mn (K + 1) (ft_ed wd ln q m) i)) (nI i) (nI K) dc (nI (ft_cd q m)) (nI c) cs ws rc ro := by
  have hc := H.2.2.2.2.1
  intro d
  induction d with
  | zero =>
    intro i n ro hi hn
    obtain ⟨n, rfl⟩ := ft_fuel hn
    have e : i = c := by omega
    subst e
    have ub := ft_mn_le (K + 1) (ft_ed wd ln q m) i
    exact br_t (nI_le (Nat.le_refl i) (by omega)) (pk_le _ K (fun h => hT h ro) (fun h => hF h ro) rfl rfl (by omega) (by omega))
  | succ d ih =>
    intro i n ro hi hn
    obtain ⟨n, rfl⟩ := ft_fuel hn
    have vi : vp_in (nI i) 12 := vp_in_nI (by omega) (by decide)
    have ex : cs (nI i).toNatClampNeg = nI (ft_cd (wd i) (ln i)) := by rw [nI_clamp (by omega)]; exact H.2.2.2.2.2 i (by omega)
    have ub := ft_mn_le (K + 1) (ft_ed wd ln q m) i
    have ue := fx_ed_ub H i
    refine br_f (nI_ge (by omega) (by omega)) ⟨vi, fx_queryDistance H.1 (H.2.2.1 i) 1 H.2.1 (H.2.2.2.1 i) (by decide) rfl ex rfl (fun ro' => ?_)⟩
    have I := ih (i + 1) n ro' (by omega) (by omega)
    rw [ft_mn_s] at I
    refine pk_le _ (ft_ed wd ln q m i) (fun h => nm_r (nI_1 i) ?_) (fun h => nm_r (nI_1 i) ?_) rfl rfl (by omega) (by omega)
    · rw [Nat.min_eq_left h] at I
      exact I
    · rw [Nat.min_eq_right (Nat.le_of_lt h)] at I
      exact I
theorem fx_nearest {post : Int32 → SX → Prop} (H : fx_ok wd ln q m c cs) {K : Nat} (hK : K ≤ 3) {rc ro : Nat → Int32} (hT : ft_mn (K + 1) (ft_ed wd ln q m) c ≤ K → ∀ ro, post (nI (ft_mn (K + 1) (ft_ed wd ln q m) c)) (nI K, dc, nI (ft_cd q m), nI c, cs, ws, rc, ro)) (hF : K < ft_mn (K + 1) (ft_ed wd ln q m) c → ∀ ro, post (-4) (nI K, dc, nI (ft_cd q m), nI c, cs, ws, rc, ro)) : wpX_nearest post (nI K, dc, nI (ft_cd q m), nI c, cs, ws, rc, ro) :=
  nm_r (nI_1 K) ⟨c + 1, fx_nearest_9 H hK hT hF c 0 (c + 1) ro (by omega) (by omega)⟩
end
