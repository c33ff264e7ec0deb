section
variable {g h : Nat → Nat} {la le ws : Nat → Int32} {lm ct : Int32} {K c : Nat}
theorem fy_re_ub (H : fy_ok g h la le) (l : Nat) : ft_re (ft_sl g) h (ft_sl g 13) (h 13) l ≤ 12 := by
  have a := ft_R_ub (z := 0) (by decide) (ft_sl g 13) (h 13) (ft_sl g l) (h l) (h l) (h 13)
  have b := H.2.1 l
  have d := H.2.1 13
  unfold ft_re
  omega
theorem fy_isOffered {post : Int32 → SY → Prop} (H : fy_ok g h la le) (hK : K ≤ 3) {l : Nat} (hl : l < 14) {tb : Nat → Int32} (hT : ft_re (ft_sl g) h (ft_sl g 13) (h 13) l ≤ K → ∀ tb, post 1 (nI K, ct, la, le, ws, tb)) (hF : ¬ ft_re (ft_sl g) h (ft_sl g 13) (h 13) l ≤ K → ∀ tb, post 0 (nI K, ct, la, le, ws, tb)) : wpY_isOffered post (nI K, ct, la, le, ws, tb) (nI l) := by
  have ub := fy_re_ub H l
  exact fy_reach H hl (fun tb => pk_lt K _ (fun q => hF (by omega) tb) (fun q => hT q tb) rfl rfl (by omega) (by omega))
theorem fy_ranksBefore {post : Int32 → SY → Prop} (H : fy_ok g h la le) {v w : Nat} (hv : v < 12) (hw : w < 12) {tb : Nat → Int32} (hT : ft_bf (ft_re (ft_sl g) h (ft_sl g 13) (h 13)) ws (ft_pw (ft_sl g) h) v w → ∀ tb, post 1 (lm, ct, la, le, ws, tb)) (hF : ¬ ft_bf (ft_re (ft_sl g) h (ft_sl g 13) (h 13)) ws (ft_pw (ft_sl g) h) v w → ∀ tb, post 0 (lm, ct, la, le, ws, tb)) : wpY_ranksBefore post (lm, ct, la, le, ws, tb) (nI v) (nI w) := by
  have uv := fy_re_ub H v
  have uw := fy_re_ub H w
  have vi : vp_in (nI v) 12 := vp_in_nI (by omega) (by decide)
  have wi : vp_in (nI w) 12 := vp_in_nI (by omega) (by decide)
  have ev : (nI v).toNatClampNeg = v := nI_clamp (by omega)
  have ew : (nI w).toNatClampNeg = w := nI_clamp (by omega)
  refine fy_reach H (by omega) (fun tb => fy_reach H (by omega) (fun tb => pk_eq (ft_re (ft_sl g) h (ft_sl g 13) (h 13) v) (ft_re (ft_sl g) h (ft_sl g 13) (h 13) w) (fun e => ⟨vi, wi, br_c (fun we => fy_before H (by omega) (by omega) (fun q => ⟨rfl, hT ?_ tb⟩) (fun q => ⟨rfl, hF ?_ tb⟩)) (fun we => ⟨vi, wi, br_c (fun q => hF ?_ tb) (fun q => hT ?_ tb)⟩)⟩) (fun e => pk_le (ft_re (ft_sl g) h (ft_sl g 13) (h 13) w) (ft_re (ft_sl g) h (ft_sl g 13) (h 13) v) (fun q => hF ?_ tb) (fun q => hT (Or.inl q) tb) rfl rfl (by omega) (by omega)) rfl rfl (by omega) (by omega)))
  · rw [ev, ew] at we
    exact Or.inr ⟨e, Or.inr ⟨we, q⟩⟩
  · rw [ev, ew] at we
    intro b
    cases b with
    | inl b => omega
    | inr b =>
      cases b.2 with
      | inl b => exact b (we ▸ Int32.le_refl _)
      | inr b => exact q b.2
  · rw [ev, ew] at we q
    intro b
    cases b with
    | inl b => omega
    | inr b =>
      cases b.2 with
      | inl b => exact b q
      | inr b => exact we b.1
  · rw [ev, ew] at we q
    exact Or.inr ⟨e, Or.inl q⟩
  · intro b
    cases b with
    | inl b => omega
    | inr b => exact e b.1
theorem fy_rank_4 {post : Int32 → SY → Prop} (H : fy_ok g h la le) (hK : K ≤ 3) (hc : c ≤ 12) {w : Nat} (hw : w < 12) (hp : ∀ tb, post (nI (ft_cn (fun v => ft_re (ft_sl g) h (ft_sl g 13) (h 13) v ≤ K ∧ ft_bf (ft_re (ft_sl g) h (ft_sl g 13) (h 13)) ws (ft_pw (ft_sl g) h) v w) c)) (nI K, nI c, la, le, ws, tb)) : ∀ d i n tb, i + d = c → d < n → wY_rankOf_4 post (nI w) n (nI (ft_cn (fun v => ft_re (ft_sl g) h (ft_sl g 13) (h 13) v ≤ K ∧ ft_bf (ft_re (ft_sl g) h (ft_sl g 13) (h 13)) ws (ft_pw (ft_sl g) h) v w) i)) (nI i) (nI K) (nI c) la le ws tb := by
  intro d
  induction d with
  | zero =>
    intro i n tb hi hn
    obtain ⟨n, rfl⟩ := ft_fuel hn
    have e : i = c := by omega
    subst e
    exact br_t (nI_le (Nat.le_refl i) (by omega)) (hp tb)
  | succ d ih =>
    intro i n tb hi hn
    obtain ⟨n, rfl⟩ := ft_fuel hn
    have I := fun tb => ih (i + 1) n tb (by omega) (by omega)
    refine br_f (nI_ge (by omega) (by omega)) (fy_isOffered H hK (by omega) (fun o tb => br_f (by decide) (fy_ranksBefore H (by omega) hw (fun b tb => br_f (by decide) (nm_r (nI_1 _) (nm_r (nI_1 i) ?_))) (fun b tb => br_t rfl (nm_r (nI_1 i) ?_)))) (fun o tb => br_t rfl (nm_r (nI_1 i) ?_)))
    · have I := I tb
      rw [ft_cn_t (p := fun v => ft_re (ft_sl g) h (ft_sl g 13) (h 13) v ≤ K ∧ ft_bf (ft_re (ft_sl g) h (ft_sl g 13) (h 13)) ws (ft_pw (ft_sl g) h) v w) (n := i) ⟨o, b⟩] at I
      exact I
    · have I := I tb
      rw [ft_cn_f (p := fun v => ft_re (ft_sl g) h (ft_sl g 13) (h 13) v ≤ K ∧ ft_bf (ft_re (ft_sl g) h (ft_sl g 13) (h 13)) ws (ft_pw (ft_sl g) h) v w) (n := i) (fun z => b z.2)] at I
      exact I
    · have I := I tb
      rw [ft_cn_f (p := fun v => ft_re (ft_sl g) h (ft_sl g 13) (h 13) v ≤ K ∧ ft_bf (ft_re (ft_sl g) h (ft_sl g 13) (h 13)) ws (ft_pw (ft_sl g) h) v w) (n := i) (fun z => o z.1)] at I
      exact I
theorem fy_rankOf {post : Int32 → SY → Prop} (H : fy_ok g h la le) (hK : K ≤ 3) (hc : c ≤ 12) {w : Nat} (hw : w < 12) {tb : Nat → Int32} (hp : ∀ tb, post (nI (ft_cn (fun v => ft_re (ft_sl g) h (ft_sl g 13) (h 13) v ≤ K ∧ ft_bf (ft_re (ft_sl g) h (ft_sl g 13) (h 13)) ws (ft_pw (ft_sl g) h) v w) c)) (nI K, nI c, la, le, ws, tb)) : wpY_rankOf post (nI K, nI c, la, le, ws, tb) (nI w) :=
  ⟨c + 1, fy_rank_4 H hK hc hw hp c 0 (c + 1) tb (by omega) (by omega)⟩
theorem ft_rank_eq {re : Nat → Nat} {pl : Nat → Nat} {w : Nat} (hw : re w ≤ K) : ft_cn (fun v => re v ≤ K ∧ ft_bf re ws pl v w) c = ft_cn (fun v => ft_bf re ws pl v w) c := by
  refine ft_cn_cg (fun v _ => ⟨fun z => z.2, fun z => ⟨?_, z⟩⟩)
  cases z with
  | inl z => omega
  | inr z => omega
theorem fy_wat_2 {post : Int32 → SY → Prop} (H : fy_ok g h la le) (hK : K ≤ 3) (hc : c ≤ 12) {r : Int32} (hS : ∀ w, w < c → ft_at (ft_sl g) h (ft_sl g 13) (h 13) c ws K r w → (∀ v, v < w → ¬ ft_at (ft_sl g) h (ft_sl g 13) (h 13) c ws K r v) → ∀ tb, post (nI w) (nI K, nI c, la, le, ws, tb)) (hN : (∀ w, w < c → ¬ ft_at (ft_sl g) h (ft_sl g 13) (h 13) c ws K r w) → ∀ tb, post (-4) (nI K, nI c, la, le, ws, tb)) : ∀ d i n tb, i + d = c → d < n → (∀ v, v < i → ¬ ft_at (ft_sl g) h (ft_sl g 13) (h 13) c ws K r v) → wY_wordAt_2 post r n (nI i) (nI K) (nI c) la le ws tb := by
  intro d
  induction d with
  | zero =>
    intro i n tb hi hn hv
    obtain ⟨n, rfl⟩ := ft_fuel hn
    have e : i = c := by omega
    subst e
    exact br_t (nI_le (Nat.le_refl i) (by omega)) (hN hv tb)
  | succ d ih =>
    intro i n tb hi hn hv
    obtain ⟨n, rfl⟩ := ft_fuel hn
    have I : ¬ ft_at (ft_sl g) h (ft_sl g 13) (h 13) c ws K r i → ∀ tb, wY_wordAt_2 post r n (nI (i + 1)) (nI K) (nI c) la le ws tb := fun q tb => ih (i + 1) n tb (by omega) (by omega) (lt_s hv q)
    refine br_f (nI_ge (by omega) (by omega)) (fy_isOffered H hK (by omega) (fun o tb => br_f (by decide) (fy_rankOf H hK hc (by omega) (fun tb => ?_))) (fun o tb => br_t rfl (nm_r (nI_1 i) (I (fun z => o z.1) tb))))
    rw [ft_rank_eq o]
    exact br_c (fun e => hS i (by omega) ⟨o, e⟩ hv tb) (fun e => nm_r (nI_1 i) (I (fun z => e z.2) tb))
theorem fy_wordAt {post : Int32 → SY → Prop} (H : fy_ok g h la le) (hK : K ≤ 3) (hc : c ≤ 12) {r : Int32} {tb : Nat → Int32} (hS : ∀ w, w < c → ft_at (ft_sl g) h (ft_sl g 13) (h 13) c ws K r w → (∀ v, v < w → ¬ ft_at (ft_sl g) h (ft_sl g 13) (h 13) c ws K r v) → ∀ tb, post (nI w) (nI K, nI c, la, le, ws, tb)) (hN : (∀ w, w < c → ¬ ft_at (ft_sl g) h (ft_sl g 13) (h 13) c ws K r w) → ∀ tb, post (-4) (nI K, nI c, la, le, ws, tb)) : wpY_wordAt post (nI K, nI c, la, le, ws, tb) r :=
  ⟨c + 1, fy_wat_2 H hK hc hS hN c 0 (c + 1) tb (by omega) (by omega) lt_0⟩
theorem fy_offered_4 {post : Int32 → SY → Prop} (H : fy_ok g h la le) (hK : K ≤ 3) (hc : c ≤ 12) (hp : ∀ tb, post (nI (ft_cn (fun l => ft_re (ft_sl g) h (ft_sl g 13) (h 13) l ≤ K) c)) (nI K, nI c, la, le, ws, tb)) : ∀ d i n tb, i + d = c → d < n → wY_offered_4 post n (nI (ft_cn (fun l => ft_re (ft_sl g) h (ft_sl g 13) (h 13) l ≤ K) i)) (nI i) (nI K) (nI c) la le ws tb := by
  intro d
  induction d with
  | zero =>
    intro i n tb hi hn
    obtain ⟨n, rfl⟩ := ft_fuel hn
    have e : i = c := by omega
    subst e
    exact br_t (nI_le (Nat.le_refl i) (by omega)) (hp tb)
  | succ d ih =>
    intro i n tb hi hn
    obtain ⟨n, rfl⟩ := ft_fuel hn
    refine br_f (nI_ge (by omega) (by omega)) (fy_isOffered H hK (by omega) (fun o tb => br_f (by decide) (nm_r (nI_1 _) (nm_r (nI_1 i) ?_))) (fun o tb => br_t rfl (nm_r (nI_1 i) ?_)))
    · have I := ih (i + 1) n tb (by omega) (by omega)
      rw [ft_cn_t (p := fun l => ft_re (ft_sl g) h (ft_sl g 13) (h 13) l ≤ K) (n := i) o] at I
      exact I
    · have I := ih (i + 1) n tb (by omega) (by omega)
      rw [ft_cn_f (p := fun l => ft_re (ft_sl g) h (ft_sl g 13) (h 13) l ≤ K) (n := i) o] at I
      exact I
theorem fy_offered {post : Int32 → SY → Prop} (H : fy_ok g h la le) (hK : K ≤ 3) (hc : c ≤ 12) {tb : Nat → Int32} (hp : ∀ tb, post (nI (ft_cn (fun l => ft_re (ft_sl g) h (ft_sl g 13) (h 13) l ≤ K) c)) (nI K, nI c, la, le, ws, tb)) : wpY_offered post (nI K, nI c, la, le, ws, tb) :=
  ⟨c + 1, fy_offered_4 H hK hc hp c 0 (c + 1) tb (by omega) (by omega)⟩
theorem fy_offer_20 {post : Int32 → SY → Prop} (H : fy_ok g h la le) {l : Nat} (hl : l < 14) {tb : Nat → Int32} (hp : post (nI (ft_cd (ft_sl g l) (h l))) (lm, ct, la, le, ws, tb)) : ∀ d i n, i + d = h l → d < n → wY_offer_20 post (nI l) lm ct la le ws tb n (nI (ft_cd (ft_sl g l) i)) (nI i) := by
  have h6 := H.2.1 l
  intro d
  induction d with
  | zero =>
    intro i n hi hn
    obtain ⟨n, rfl⟩ := ft_fuel hn
    have e : i = h l := by omega
    subst e
    exact ⟨vp_in_nI hl (by decide), pk_le (h l) (h l) (fun _ => hp) (fun z => absurd z (by omega)) (fy_le H hl) rfl (by omega) (by omega)⟩
  | succ d ih =>
    intro i n hi hn
    obtain ⟨n, rfl⟩ := ft_fuel hn
    have e : nI (ft_cd (ft_sl g l) i) * 5 + la ((6 : Int32) * nI l + nI i).toNatClampNeg + 1 = nI (ft_cd (ft_sl g l) (i + 1)) := by
      have e5 : nI (ft_cd (ft_sl g l) i) * 5 = nI (ft_cd (ft_sl g l) i * 5) := pk_mul _ 5
      rw [fy_la H hl (by omega), e5, nI_add, nI_1, ft_cd_s]
      congr 1
      omega
    exact ⟨vp_in_nI hl (by decide), pk_le (h l) i (fun z => absurd z (by omega)) (fun _ => ⟨fy_vi hl (by omega), nm_r e (nm_r (nI_1 i) (ih (i + 1) n (by omega) (by omega)))⟩) (fy_le H hl) rfl (by omega) (by omega)⟩
theorem fy_nearest_5 {post : Int32 → SY → Prop} (H : fy_ok g h la le) (hK : K ≤ 3) (hc : c ≤ 12) (hT : ft_bs (ft_ed (ft_sl g) h (ft_sl g 13) (h 13)) c ≤ K → ∀ tb, post (nI (ft_bs (ft_ed (ft_sl g) h (ft_sl g 13) (h 13)) c)) (nI K, nI c, la, le, ws, tb)) (hF : K < ft_bs (ft_ed (ft_sl g) h (ft_sl g 13) (h 13)) c → ∀ tb, post (-4) (nI K, nI c, la, le, ws, tb)) : ∀ d i n tb, i + d = c → d < n → wY_nearest_5 post n (nI (ft_bs (ft_ed (ft_sl g) h (ft_sl g 13) (h 13)) i)) (nI i) (nI K) (nI c) la le ws tb := by
  have h6 := H.2.1 13
  intro d
  induction d with
  | zero =>
    intro i n tb hi hn
    obtain ⟨n, rfl⟩ := ft_fuel hn
    have e : i = c := by omega
    subst e
    have ub := ft_bs_9 (ft_ed (ft_sl g) h (ft_sl g 13) (h 13)) i
    exact br_t (nI_le (Nat.le_refl i) (by omega)) (pk_lt K _ (fun q => hF q tb) (fun q => hT q tb) rfl rfl (by omega) (by omega))
  | succ d ih =>
    intro i n tb hi hn
    obtain ⟨n, rfl⟩ := ft_fuel hn
    have h7 := H.2.1 i
    have ub := ft_bs_9 (ft_ed (ft_sl g) h (ft_sl g 13) (h 13)) i
    have u1 := ft_D_ub (ft_sl g 13) (ft_sl g i) (h 13) (h i)
    have ee : ft_ed (ft_sl g) h (ft_sl g 13) (h 13) i = ft_D (ft_sl g 13) (ft_sl g i) (h 13) (h i) := ft_edit _ _ _ _
    have ei : le 13 * (7 : Int32) + le (nI i).toNatClampNeg = nI (h 13 * 7 + h i) := by rw [fy_le H (by omega), H.2.2.2 13, fy_ix7]
    refine br_f (nI_ge (by omega) (by omega)) (fy_fill H i (by omega) rfl (fun tb hT' => ⟨vp_in_nI (by omega) (by decide), ?_, ?_⟩))
    · rw [ei]; exact vp_in_nI (by omega) (by decide)
    · have et : tb (le 13 * (7 : Int32) + le (nI i).toNatClampNeg).toNatClampNeg = nI (ft_ed (ft_sl g) h (ft_sl g 13) (h 13) i) := by
        rw [ei, nI_clamp (by omega), ee]; exact hT' _ _ (by omega)
      exact fy_least _ _ rfl et (by omega) (by omega) (nm_r (nI_1 i) (ih (i + 1) n tb (by omega) (by omega)))
theorem fy_nearest {post : Int32 → SY → Prop} (H : fy_ok g h la le) (hK : K ≤ 3) (hc : c ≤ 12) {tb : Nat → Int32} (hT : ft_bs (ft_ed (ft_sl g) h (ft_sl g 13) (h 13)) c ≤ K → ∀ tb, post (nI (ft_bs (ft_ed (ft_sl g) h (ft_sl g 13) (h 13)) c)) (nI K, nI c, la, le, ws, tb)) (hF : K < ft_bs (ft_ed (ft_sl g) h (ft_sl g 13) (h 13)) c → ∀ tb, post (-4) (nI K, nI c, la, le, ws, tb)) : wpY_nearest post (nI K, nI c, la, le, ws, tb) :=
  ⟨c + 1, fy_nearest_5 H hK hc hT hF c 0 (c + 1) tb (by omega) (by omega)⟩
theorem fy_exact_4 {post : Int32 → Prop} (H : fy_ok g h la le) (hc : c ≤ 12) {tb : Nat → Int32} (hp : post (nI (ft_cn (fun l => ft_bg (ft_sl g 13) (h 13) (ft_sl g l) (h l)) c))) : ∀ d i n, i + d = c → d < n → wY_exact_4 post lm (nI c) la le ws tb n (nI (ft_cn (fun l => ft_bg (ft_sl g 13) (h 13) (ft_sl g l) (h l)) i)) (nI i) := by
  intro d
  induction d with
  | zero =>
    intro i n hi hn
    obtain ⟨n, rfl⟩ := ft_fuel hn
    have e : i = c := by omega
    subst e
    exact br_t (nI_le (Nat.le_refl i) (by omega)) hp
  | succ d ih =>
    intro i n hi hn
    obtain ⟨n, rfl⟩ := ft_fuel hn
    have I := ih (i + 1) n (by omega) (by omega)
    refine br_f (nI_ge (by omega) (by omega)) (fy_begins H 13 i (by decide) (by omega) rfl rfl (fun b => br_f (by decide) (nm_r (nI_1 _) (nm_r (nI_1 i) ?_))) (fun b => br_t rfl (nm_r (nI_1 i) ?_)))
    · rw [ft_cn_t (p := fun l => ft_bg (ft_sl g 13) (h 13) (ft_sl g l) (h l)) (n := i) b] at I
      exact I
    · rw [ft_cn_f (p := fun l => ft_bg (ft_sl g 13) (h 13) (ft_sl g l) (h l)) (n := i) b] at I
      exact I
theorem fy_exact {post : Int32 → Prop} (H : fy_ok g h la le) (hc : c ≤ 12) {tb : Nat → Int32} (hp : post (nI (ft_cn (fun l => ft_bg (ft_sl g 13) (h 13) (ft_sl g l) (h l)) c))) : wpY_exact post (lm, nI c, la, le, ws, tb) :=
  ⟨c + 1, fy_exact_4 H hc hp c 0 (c + 1) (by omega) (by omega)⟩
theorem fy_continues_4 {post : Int32 → Prop} (H : fy_ok g h la le) (hc : c ≤ 12) {tb : Nat → Int32} (hp : post (ft_fo (ft_sl g) h (ft_sl g 13) (h 13) c)) : ∀ d i n, i + d = c → d < n → wY_continues_4 post lm (nI c) la le ws tb n (ft_fo (ft_sl g) h (ft_sl g 13) (h 13) i) (nI i) := by
  have h6 := H.2.1 13
  intro d
  induction d with
  | zero =>
    intro i n hi hn
    obtain ⟨n, rfl⟩ := ft_fuel hn
    have e : i = c := by omega
    subst e
    exact br_t (nI_le (Nat.le_refl i) (by omega)) hp
  | succ d ih =>
    intro i n hi hn
    obtain ⟨n, rfl⟩ := ft_fuel hn
    have h7 := H.2.1 i
    have I := ih (i + 1) n (by omega) (by omega)
    have F : ¬ (ft_bg (ft_sl g 13) (h 13) (ft_sl g i) (h i) ∧ h 13 < h i) → ft_fo (ft_sl g) h (ft_sl g 13) (h 13) (i + 1) = ft_fo (ft_sl g) h (ft_sl g 13) (h 13) i := fun q => ft_or_f (p := fun l => ft_bg (ft_sl g 13) (h 13) (ft_sl g l) (h l) ∧ h 13 < h l) q
    refine br_f (nI_ge (by omega) (by omega)) (fy_begins H 13 i (by decide) (by omega) rfl rfl (fun b => br_f (by decide) ⟨vp_in_nI (by omega) (by decide), pk_le (h i) (h 13) (fun q => nm_r (nI_1 i) ?_) (fun q => ⟨?_, nm_r (?_ : _ = ft_fo (ft_sl g) h (ft_sl g 13) (h 13) (i + 1)) (nm_r (nI_1 i) I)⟩) (fy_le H (by omega)) (H.2.2.2 13) (by omega) (by omega)⟩) (fun b => br_t rfl (nm_r (nI_1 i) ?_)))
    · rw [F (fun z => absurd z.2 (by omega))] at I
      exact I
    · rw [H.2.2.2 13]; exact fy_vi (by omega) (by omega)
    · rw [H.2.2.2 13, fy_la H (by omega) (by omega)]
      exact (ft_or_t (p := fun l => ft_bg (ft_sl g 13) (h 13) (ft_sl g l) (h l) ∧ h 13 < h l) (x := fun l => (1 : Int32) <<< (nI (ft_sl g l (h 13)) &&& 31)) (n := i) ⟨b, q⟩).symm
    · rw [F (fun z => b z.1)] at I
      exact I
theorem fy_continues {post : Int32 → Prop} (H : fy_ok g h la le) (hc : c ≤ 12) {tb : Nat → Int32} (hp : post (ft_fo (ft_sl g) h (ft_sl g 13) (h 13) c)) : wpY_continues post (lm, nI c, la, le, ws, tb) :=
  ⟨c + 1, fy_continues_4 H hc hp c 0 (c + 1) (by omega) (by omega)⟩
end
