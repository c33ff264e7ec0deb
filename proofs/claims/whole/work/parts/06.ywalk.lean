/-! the reference: lists as slices of one array -/
def ft_sl (g : Nat → Nat) (l i : Nat) : Nat := g (6 * l + i)
def fy_ok (g h : Nat → Nat) (la le : Nat → Int32) : Prop := (∀ j, g j < 4) ∧ (∀ j, h j ≤ 6) ∧ (∀ j, la j = nI (g j)) ∧ ∀ j, le j = nI (h j)
def ft_up (g : Nat → Nat) (k x j : Nat) : Nat := if j = k then x else g j
def ft_cp (g : Nat → Nat) (a b n j : Nat) : Nat := if 6 * b ≤ j ∧ j < 6 * b + n then g (6 * a + (j - 6 * b)) else g j
theorem fy_ix (l i : Nat) : (6 : Int32) * nI l + nI i = nI (6 * l + i) := by
  rw [← nI_add, ← pk_mul]; rfl
theorem fy_ix7 (i j : Nat) : nI i * (7 : Int32) + nI j = nI (i * 7 + j) := by
  rw [← nI_add, ← pk_mul]; rfl
section
variable {g h : Nat → Nat} {la le ws tb : Nat → Int32} {lm ct : Int32}
theorem fy_sl4 (H : fy_ok g h la le) (l i : Nat) : ft_sl g l i < 4 := H.1 _
theorem fy_le (H : fy_ok g h la le) {l : Nat} (hl : l < 14) : le (nI l).toNatClampNeg = nI (h l) := by
  rw [nI_clamp (by omega)]; exact H.2.2.2 l
theorem fy_la (H : fy_ok g h la le) {l i : Nat} (hl : l < 14) (hi : i < 6) : la ((6 : Int32) * nI l + nI i).toNatClampNeg = nI (ft_sl g l i) := by
  rw [fy_ix, nI_clamp (by omega)]; exact H.2.2.1 _
theorem fy_vi {l i : Nat} (hl : l < 14) (hi : i < 6) : vp_in ((6 : Int32) * nI l + nI i) 84 := by
  rw [fy_ix]; exact vp_in_nI (by omega) (by decide)
theorem fy_begins_19 {post : Int32 → Prop} (H : fy_ok g h la le) {a b : Nat} (ha : a < 14) (hb : b < 14) (hab : h a ≤ h b) (hT : ft_bg (ft_sl g a) (h a) (ft_sl g b) (h b) → post 1) (hF : ¬ ft_bg (ft_sl g a) (h a) (ft_sl g b) (h b) → post 0) : ∀ d i n, i + d = h a → d < n → (∀ j, j < i → ft_sl g a j = ft_sl g b j) → wY_begins_19 post (nI a) (nI b) lm ct la le ws tb n (nI i) := by
  have h6 := H.2.1 a
  intro d
  induction d with
  | zero =>
    intro i n hi hn hj
    obtain ⟨n, rfl⟩ := ft_fuel hn
    have e : i = h a := by omega
    exact ⟨vp_in_nI ha (by decide), pk_le (h a) i (fun _ => hT ⟨hab, fun j q => hj j (by omega)⟩) (fun z => absurd z (by omega)) (fy_le H ha) rfl (by omega) (by omega)⟩
  | succ d ih =>
    intro i n hi hn hj
    obtain ⟨n, rfl⟩ := ft_fuel hn
    have b1 := fy_sl4 H a i
    have b2 := fy_sl4 H b i
    exact ⟨vp_in_nI ha (by decide), pk_le (h a) i (fun z => absurd z (by omega)) (fun _ => ⟨fy_vi ha (by omega), fy_vi hb (by omega), pk_eq (ft_sl g a i) (ft_sl g b i) (fun e => nm_r (nI_1 i) (ih (i + 1) n (by omega) (by omega) (lt_s hj e))) (fun e => hF (fun z => e (z.2 i (by omega)))) (fy_la H ha (by omega)) (fy_la H hb (by omega)) (by omega) (by omega)⟩) (fy_le H ha) rfl (by omega) (by omega)⟩
theorem fy_begins {post : Int32 → Prop} (H : fy_ok g h la le) {x y : Int32} (a b : Nat) (ha : a < 14) (hb : b < 14) (hx : x = nI a) (hy : y = nI b) (hT : ft_bg (ft_sl g a) (h a) (ft_sl g b) (h b) → post 1) (hF : ¬ ft_bg (ft_sl g a) (h a) (ft_sl g b) (h b) → post 0) : wpY_begins post (lm, ct, la, le, ws, tb) x y := by
  subst hx hy
  have h6 := H.2.1 a
  have h7 := H.2.1 b
  exact ⟨vp_in_nI ha (by decide), vp_in_nI hb (by decide), pk_le (h a) (h b) (fun q => ⟨h a + 1, fy_begins_19 H ha hb q hT hF (h a) 0 (h a + 1) (by omega) (by omega) lt_0⟩) (fun q => hF (fun z => absurd z.1 (by omega))) (fy_le H ha) (fy_le H hb) (by omega) (by omega)⟩
theorem fy_draft_2 {post : Int32 → Prop} (H : fy_ok g h la le) {c : Nat} (hc : c ≤ 12) (hS : ∀ w, w < c → ft_cd (ft_sl g w) (h w) = ft_cd (ft_sl g 12) (h 12) → (∀ v, v < w → ¬ ft_cd (ft_sl g v) (h v) = ft_cd (ft_sl g 12) (h 12)) → post (nI w)) (hN : (∀ w, w < c → ¬ ft_cd (ft_sl g w) (h w) = ft_cd (ft_sl g 12) (h 12)) → post (-4)) : ∀ d i n, i + d = c → d < n → (∀ v, v < i → ¬ ft_cd (ft_sl g v) (h v) = ft_cd (ft_sl g 12) (h 12)) → wY_drafted_2 post lm (nI c) la le ws tb n (nI i) := by
  intro d
  induction d with
  | zero =>
    intro i n hi hn hv
    obtain ⟨n, rfl⟩ := ft_fuel hn
    have e : i = c := by omega
    subst e
    exact br_t (nI_le (Nat.le_refl i) (by omega)) (hN hv)
  | succ d ih =>
    intro i n hi hn hv
    obtain ⟨n, rfl⟩ := ft_fuel hn
    have h6 := H.2.1 i
    have h7 := H.2.1 12
    have I : ¬ ft_cd (ft_sl g i) (h i) = ft_cd (ft_sl g 12) (h 12) → wY_drafted_2 post lm (nI c) la le ws tb n (nI (i + 1)) := fun e => ih (i + 1) n (by omega) (by omega) (lt_s hv e)
    refine br_f (nI_ge (by omega) (by omega)) ⟨vp_in_nI (by omega) (by decide), pk_eq (h i) (h 12) (fun e => fy_begins H i 12 (by omega) (by decide) rfl rfl (fun b => br_f (by decide) (hS i (by omega) ?_ hv)) (fun b => br_t rfl (nm_r (nI_1 i) (I (fun z => b ?_))))) (fun e => nm_r (nI_1 i) (I (fun z => e (ft_cd_inj (fy_sl4 H i) (fy_sl4 H 12) _ _ z).1))) (fy_le H (by omega)) (H.2.2.2 12) (by omega) (by omega)⟩
    · have := ft_bg_cd b
      rw [← this, e]
    · exact ⟨Nat.le_of_eq e, (ft_cd_inj (fy_sl4 H i) (fy_sl4 H 12) _ _ z).2⟩
theorem fy_drafted {post : Int32 → Prop} (H : fy_ok g h la le) {c : Nat} (hc : c ≤ 12) (hS : ∀ w, w < c → ft_cd (ft_sl g w) (h w) = ft_cd (ft_sl g 12) (h 12) → (∀ v, v < w → ¬ ft_cd (ft_sl g v) (h v) = ft_cd (ft_sl g 12) (h 12)) → post (nI w)) (hN : (∀ w, w < c → ¬ ft_cd (ft_sl g w) (h w) = ft_cd (ft_sl g 12) (h 12)) → post (-4)) : wpY_drafted post (lm, nI c, la, le, ws, tb) :=
  ⟨c + 1, fy_draft_2 H hc hS hN c 0 (c + 1) (by omega) (by omega) lt_0⟩
theorem fy_copy_2 {post : SY → Prop} (H : fy_ok g h la le) {a b : Nat} (ha : a < 14) (hb : b < 14) (hpost : ∀ la', (∀ j, la' j = nI (ft_cp g a b (h a) j)) → post (lm, ct, la', upd le b (nI (h a)), ws, tb)) : ∀ d i n la', i + d = h a → d < n → (∀ j, la' j = nI (ft_cp g a b i j)) → wY_copy_2 post (nI a) (nI b) lm ct n (nI i) la' le ws tb := by
  have h6 := H.2.1 a
  intro d
  induction d with
  | zero =>
    intro i n la' hi hn hj
    obtain ⟨n, rfl⟩ := ft_fuel hn
    have e : i = h a := by omega
    subst e
    refine ⟨vp_in_nI ha (by decide), pk_le (h a) (h a) (fun _ => ⟨vp_in_nI ha (by decide), vp_in_nI hb (by decide), nm_r (?_ : _ = upd le b (nI (h a))) (hpost la' hj)⟩) (fun z => absurd z (by omega)) (fy_le H ha) rfl (by omega) (by omega)⟩
    rw [fy_le H ha, nI_clamp (by omega)]
  | succ d ih =>
    intro i n la' hi hn hj
    obtain ⟨n, rfl⟩ := ft_fuel hn
    refine ⟨vp_in_nI ha (by decide), pk_le (h a) i (fun z => absurd z (by omega)) (fun _ => ⟨fy_vi ha (by omega), fy_vi hb (by omega), nm_e (nm_r (nI_1 i) (ih (i + 1) n _ (by omega) (by omega) (fun j => ?_)))⟩) (fy_le H ha) rfl (by omega) (by omega)⟩
    have e1 : la' ((6 : Int32) * nI a + nI i).toNatClampNeg = nI (g (6 * a + i)) := by
      rw [fy_ix, nI_clamp (by omega), hj]
      unfold ft_cp
      rw [if_neg (by omega)]
    have e2 : ((6 : Int32) * nI b + nI i).toNatClampNeg = 6 * b + i := by rw [fy_ix, nI_clamp (by omega)]
    rw [e1, e2]
    by_cases q : j = 6 * b + i
    · subst q
      rw [pk_us]
      unfold ft_cp
      rw [if_pos (by omega), show 6 * b + i - 6 * b = i by omega]
    · rw [pk_un q, hj]
      unfold ft_cp
      by_cases r : 6 * b ≤ j ∧ j < 6 * b + i
      · rw [if_pos r, if_pos (by omega)]
      · rw [if_neg r, if_neg (by omega)]
theorem fy_cp0 (a b j : Nat) : ft_cp g a b 0 j = g j := if_neg (by omega)
theorem fy_copy {post : SY → Prop} (H : fy_ok g h la le) {x y : Int32} (a b : Nat) (ha : a < 14) (hb : b < 14) (hx : x = nI a) (hy : y = nI b) (hpost : ∀ la', (∀ j, la' j = nI (ft_cp g a b (h a) j)) → post (lm, ct, la', upd le b (nI (h a)), ws, tb)) : wpY_copy post (lm, ct, la, le, ws, tb) x y := by
  subst hx hy
  exact ⟨h a + 1, fy_copy_2 H ha hb hpost (h a) 0 (h a + 1) la (by omega) (by omega) (fun j => by rw [fy_cp0]; exact H.2.2.1 j)⟩
theorem fy_append {post : Int32 → SY → Prop} (H : fy_ok g h la le) {x y : Int32} (l : Nat) (hl : l < 14) (hx : x = nI l) (h1 : y < 0 → post (-1) (lm, ct, la, le, ws, tb)) (h2 : ¬ y < 0 → ¬ y ≤ 3 → post (-1) (lm, ct, la, le, ws, tb)) (h3 : ¬ y < 0 → y ≤ 3 → h l = 6 → post (-2) (lm, ct, la, le, ws, tb)) (h4 : ¬ y < 0 → y ≤ 3 → h l < 6 → ∀ k la' le', y = nI k → k < 4 → (∀ j, la' j = nI (ft_up g (6 * l + h l) k j)) → (∀ j, le' j = nI (ft_up h l (h l + 1) j)) → post (nI (h l + 1)) (lm, ct, la', le', ws, tb)) : wpY_append post (lm, ct, la, le, ws, tb) x y := by
  subst hx
  have h6 := H.2.1 l
  refine br_c h1 (fun n0 => br_c (fun n3 => ⟨vp_in_nI hl (by decide), pk_eq (h l) 6 (fun e => h3 n0 n3 e) (fun e => ?_) (fy_le H hl) rfl (by omega) (by omega)⟩) (h2 n0))
  have vl : vp_in (nI l) 14 := vp_in_nI hl (by decide)
  obtain ⟨k, hk, ek⟩ := nI_of2 (M := 3) (n := 3) (by decide) n0 n3
  have e6 : (6 : Int32) * nI l + le (nI l).toNatClampNeg = nI (6 * l + h l) := by rw [fy_le H hl, fy_ix]
  refine ⟨vl, by rw [e6]; exact vp_in_nI (by omega) (by decide), nm_e ⟨vl, vl, nm_r (?_ : _ = upd le l (nI (h l + 1))) ⟨vl, ?_⟩⟩⟩
  · rw [fy_le H hl, nI_clamp (by omega), nI_1]
  · rw [nI_clamp (by omega), pk_us]
    refine h4 n0 n3 (by omega) k _ _ ek (by omega) (fun j => ?_) (fun j => ?_)
    · rw [H.2.2.2 l, fy_ix, nI_clamp (by omega)]
      unfold ft_up
      by_cases q : j = 6 * l + h l
      · subst q; rw [pk_us, if_pos rfl, ek]
      · rw [pk_un q, if_neg q]; exact H.2.2.1 j
    · unfold ft_up
      by_cases q : j = l
      · subst q; rw [pk_us, if_pos rfl]
      · rw [pk_un q, if_neg q]; exact H.2.2.2 j
theorem fy_least {post : Int32 → Prop} {x y : Int32} (a b : Nat) (hx : x = nI a) (hy : y = nI b) (ha : a < 1000) (hb : b < 1000) (hp : post (nI (min a b))) : wpY_least post (lm, ct, la, le, ws, tb) x y := by
  subst hx hy
  refine pk_le b a (fun q => ?_) (fun q => ?_) rfl rfl (by omega) (by omega)
  · rw [Nat.min_eq_right q] at hp; exact hp
  · rw [Nat.min_eq_left (Nat.le_of_lt q)] at hp; exact hp
theorem fy_before_84 {post : Int32 → Prop} (H : fy_ok g h la le) {a b : Nat} (ha : a < 14) (hb : b < 14) (hT : h a < h b → post 1) (hF : ¬ h a < h b → post 0) : wY_before_84 post (nI a) (nI b) lm ct la le ws tb := by
  have h6 := H.2.1 a
  have h7 := H.2.1 b
  exact ⟨vp_in_nI ha (by decide), vp_in_nI hb (by decide), pk_le (h b) (h a) (fun q => hF (by omega)) hT (fy_le H hb) (fy_le H ha) (by omega) (by omega)⟩
theorem fy_before_2 {post : Int32 → Prop} (H : fy_ok g h la le) {a b : Nat} (ha : a < 14) (hb : b < 14) (hT : ft_pl (ft_sl g a) (h a) < ft_pl (ft_sl g b) (h b) → post 1) (hF : ¬ ft_pl (ft_sl g a) (h a) < ft_pl (ft_sl g b) (h b) → post 0) : ∀ d i n, i + d = min (h a) (h b) → d < n → (∀ j, j < i → ft_sl g a j = ft_sl g b j) → wY_before_2 post (nI a) (nI b) lm ct la le ws tb n (nI i) := by
  have h6 := H.2.1 a
  have h7 := H.2.1 b
  intro d
  induction d with
  | zero =>
    intro i n hi hn hj
    obtain ⟨n, rfl⟩ := ft_fuel hn
    have E := ft_pl_end (fy_sl4 H a) (fy_sl4 H b) (m := h a) (n := h b) (i := i) h6 h7 hj (by omega)
    have f : wY_before_84 post (nI a) (nI b) lm ct la le ws tb := fy_before_84 H ha hb (fun q => hT (E.mpr q)) (fun q => hF (fun z => q (E.mp z)))
    exact ⟨vp_in_nI ha (by decide), pk_le (h a) i (fun _ => f) (fun z => ⟨vp_in_nI hb (by decide), pk_le (h b) i (fun _ => f) (fun z => absurd z (by omega)) (fy_le H hb) rfl (by omega) (by omega)⟩) (fy_le H ha) rfl (by omega) (by omega)⟩
  | succ d ih =>
    intro i n hi hn hj
    obtain ⟨n, rfl⟩ := ft_fuel hn
    have b1 := fy_sl4 H a i
    have b2 := fy_sl4 H b i
    have ia : i < h a := by omega
    have ib : i < h b := by omega
    refine ⟨vp_in_nI ha (by decide), pk_le (h a) i (fun z => absurd z (by omega)) (fun _ => ⟨vp_in_nI hb (by decide), pk_le (h b) i (fun z => absurd z (by omega)) (fun _ => ⟨fy_vi ha (by omega), fy_vi hb (by omega), pk_eq (ft_sl g a i) (ft_sl g b i) (fun e => nm_r (nI_1 i) (ih (i + 1) n (by omega) (by omega) (lt_s hj e))) (fun e => ⟨fy_vi ha (by omega), fy_vi hb (by omega), ?_⟩) (fy_la H ha (by omega)) (fy_la H hb (by omega)) (by omega) (by omega)⟩) (fy_le H hb) rfl (by omega) (by omega)⟩) (fy_le H ha) rfl (by omega) (by omega)⟩
    have E := ft_pl_dif (fy_sl4 H a) (fy_sl4 H b) (m := h a) (n := h b) (i := i) h6 ia ib hj e
    exact pk_le (ft_sl g b i) (ft_sl g a i) (fun q => hF (fun z => absurd (E.mp z) (by omega))) (fun q => hT (E.mpr q)) (fy_la H hb (by omega)) (fy_la H ha (by omega)) (by omega) (by omega)
theorem fy_before {post : Int32 → Prop} (H : fy_ok g h la le) {a b : Nat} (ha : a < 14) (hb : b < 14) (hT : ft_pl (ft_sl g a) (h a) < ft_pl (ft_sl g b) (h b) → post 1) (hF : ¬ ft_pl (ft_sl g a) (h a) < ft_pl (ft_sl g b) (h b) → post 0) : wpY_before post (lm, ct, la, le, ws, tb) (nI a) (nI b) :=
  ⟨min (h a) (h b) + 1, fy_before_2 H ha hb hT hF (min (h a) (h b)) 0 _ (by omega) (by omega) lt_0⟩
end
