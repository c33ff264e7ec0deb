section
variable {lm dc : Int32} {cs ws : Nat → Int32} {wd : Nat → Nat → Nat} {ln q : Nat → Nat} {m c : Nat}
def ft_pw (wd : Nat → Nat → Nat) (ln : Nat → Nat) (l : Nat) : Nat := ft_pl (wd l) (ln l)
theorem fx_comesBefore {post : Int32 → Prop} (H : fx_ok wd ln q m c cs) {rc ro : Nat → Int32} (h1 : ∀ j, j < c → rc j = nI (ft_re wd ln q m j)) {v w : Nat} (hv : v < c) (hw : w < c) (hT : ft_bf (ft_re wd ln q m) ws (ft_pw wd ln) v w → post 1) (hF : ¬ ft_bf (ft_re wd ln q m) ws (ft_pw wd ln) v w → post 0) : wpX_comesBefore post (lm, dc, nI (ft_cd q m), nI c, cs, ws, rc, ro) (nI v) (nI w) := by
  have hc := H.2.2.2.2.1
  have vi : vp_in (nI v) 12 := vp_in_nI (by omega) (by decide)
  have wi : vp_in (nI w) 12 := vp_in_nI (by omega) (by decide)
  have ev : (nI v).toNatClampNeg = v := nI_clamp (by omega)
  have ew : (nI w).toNatClampNeg = w := nI_clamp (by omega)
  have rv : rc (nI v).toNatClampNeg = nI (ft_re wd ln q m v) := by rw [ev]; exact h1 v hv
  have rw' : rc (nI w).toNatClampNeg = nI (ft_re wd ln q m w) := by rw [ew]; exact h1 w hw
  have cv : cs (nI v).toNatClampNeg = nI (ft_cd (wd v) (ln v)) := by rw [ev]; exact H.2.2.2.2.2 v (by omega)
  have cw : cs (nI w).toNatClampNeg = nI (ft_cd (wd w) (ln w)) := by rw [ew]; exact H.2.2.2.2.2 w (by omega)
  have uv := fx_re_ub H v
  have uw := fx_re_ub H w
  have pv := ft_pl_lt (H.2.2.1 v) (ln v)
  have pw := ft_pl_lt (H.2.2.1 w) (ln w)
  refine ⟨vi, wi, pk_eq (ft_re wd ln q m v) (ft_re wd ln q m w) (fun e => ⟨vi, wi, br_c (fun we => ⟨vi, ?_⟩) (fun we => ⟨vi, wi, br_c (fun h => hF ?_) (fun h => hT ?_)⟩)⟩) (fun e => ⟨vi, wi, pk_le (ft_re wd ln q m w) (ft_re wd ln q m v) (fun h => hF ?_) (fun h => hT (Or.inl h)) rw' rv (by omega) (by omega)⟩) rv rw' (by omega) (by omega)⟩
  · refine fx_place (H.2.2.1 v) (H.2.2.2.1 v) cv ⟨wi, fx_place (H.2.2.1 w) (H.2.2.2.1 w) cw (pk_le (ft_pw wd ln w) (ft_pw wd ln v) (fun h => hF ?_) (fun h => hT ?_) rfl rfl (Nat.lt_trans pw ft_p31) (Nat.lt_trans pv ft_p31))⟩
    · rw [ev, ew] at we
      intro b
      cases b with
      | inl b => omega
      | inr b =>
        cases b.2 with
        | inl b => exact b (we ▸ Int32.le_refl _)
        | inr b => omega
    · rw [ev, ew] at we
      exact Or.inr ⟨e, Or.inr ⟨we, h⟩⟩
  · rw [ev, ew] at we h
    intro b
    cases b with
    | inl b => omega
    | inr b =>
      cases b.2 with
      | inl b => exact b h
      | inr b => exact we b.1
  · rw [ev, ew] at we h
    exact Or.inr ⟨e, Or.inl h⟩
  · intro b
    cases b with
    | inl b => omega
    | inr b => exact e b.1
theorem fx_rank_4 {post : Int32 → Prop} (H : fx_ok wd ln q m c cs) {rc ro : Nat → Int32} (h1 : ∀ j, j < c → rc j = nI (ft_re wd ln q m j)) {w : Nat} (hw : w < c) (hp : post (nI (ft_cn (fun v => ft_bf (ft_re wd ln q m) ws (ft_pw wd ln) v w) c))) : ∀ d i n, i + d = c → d < n → wX_rankOf_4 post (nI w) lm dc (nI (ft_cd q m)) (nI c) cs ws rc ro n (nI (ft_cn (fun v => ft_bf (ft_re wd ln q m) ws (ft_pw wd ln) v w) i)) (nI i) := by
  have hc := H.2.2.2.2.1
  intro d
  induction d with
  | zero =>
    intro i n hi hn
    obtain ⟨n, rfl⟩ := ft_fuel hn
    have e : i = c := by omega
    subst e
    exact br_t (nI_le (Nat.le_refl i) (by omega)) hp
  | succ d ih =>
    intro i n hi hn
    obtain ⟨n, rfl⟩ := ft_fuel hn
    have I := ih (i + 1) n (by omega) (by omega)
    refine br_f (nI_ge (by omega) (by omega)) (fx_comesBefore H h1 (by omega) hw (fun h => br_f (by decide) (nm_r (nI_1 _) (nm_r (nI_1 i) ?_))) (fun h => br_t rfl (nm_r (nI_1 i) ?_)))
    · rw [ft_cn_t (p := fun v => ft_bf (ft_re wd ln q m) ws (ft_pw wd ln) v w) (n := i) h] at I
      exact I
    · rw [ft_cn_f (p := fun v => ft_bf (ft_re wd ln q m) ws (ft_pw wd ln) v w) (n := i) h] at I
      exact I
theorem fx_rankOf {post : Int32 → Prop} (H : fx_ok wd ln q m c cs) {rc ro : Nat → Int32} (h1 : ∀ j, j < c → rc j = nI (ft_re wd ln q m j)) {w : Nat} (hw : w < c) (hp : post (nI (ft_cn (fun v => ft_bf (ft_re wd ln q m) ws (ft_pw wd ln) v w) c))) : wpX_rankOf post (lm, dc, nI (ft_cd q m), nI c, cs, ws, rc, ro) (nI w) :=
  ⟨c + 1, fx_rank_4 H h1 hw hp c 0 (c + 1) (by omega) (by omega)⟩
/-- word w has rank r -/
def ft_at (wd : Nat → Nat → Nat) (ln q : Nat → Nat) (m c : Nat) (ws : Nat → Int32) (K : Nat) (r : Int32) (w : Nat) : Prop := ft_re wd ln q m w ≤ K ∧ nI (ft_cn (fun v => ft_bf (ft_re wd ln q m) ws (ft_pw wd ln) v w) c) = r
theorem fx_war_6 {post : Int32 → SX → Prop} (H : fx_ok wd ln q m c cs) {K : Nat} (hK : K ≤ 3) {r : Int32} {rc ro : Nat → Int32} (h1 : ∀ j, j < c → rc j = nI (ft_re wd ln q m j)) (hS : ∀ w, w < c → ft_at wd ln q m c ws K r w → (∀ v, v < w → ¬ ft_at wd ln q m c ws K r v) → post (nI w) (nI K, dc, nI (ft_cd q m), nI c, cs, ws, rc, ro)) (hN : (∀ w, w < c → ¬ ft_at wd ln q m c ws K r w) → post (-4) (nI K, dc, nI (ft_cd q m), nI c, cs, ws, rc, ro)) : ∀ d i n, i + d = c → d < n → (∀ v, v < i → ¬ ft_at wd ln q m c ws K r v) → wX_wordAtRank_6 post r (nI K) dc (nI (ft_cd q m)) (nI c) cs ws rc ro n (nI i) := by
  have hc := H.2.2.2.2.1
  intro d
  induction d with
  | zero =>
    intro i n hi hn hv
    obtain ⟨n, rfl⟩ := ft_fuel hn
    have e : i = c := by omega
    subst e
    exact br_t (nI_le (Nat.le_refl i) (by omega)) (hN hv)
  | succ d ih =>
    intro i n hi hn hv
    obtain ⟨n, rfl⟩ := ft_fuel hn
    have vi : vp_in (nI i) 12 := vp_in_nI (by omega) (by decide)
    have ex : rc (nI i).toNatClampNeg = nI (ft_re wd ln q m i) := by rw [nI_clamp (by omega)]; exact h1 i (by omega)
    have ub := fx_re_ub H i
    have I : ¬ ft_at wd ln q m c ws K r i → wX_wordAtRank_6 post r (nI K) dc (nI (ft_cd q m)) (nI c) cs ws rc ro n (nI (i + 1)) := fun h => ih (i + 1) n (by omega) (by omega) (lt_s hv h)
    exact br_f (nI_ge (by omega) (by omega)) ⟨vi, pk_lt K (ft_re wd ln q m i) (fun h => nm_r (nI_1 i) (I (fun z => Nat.lt_irrefl _ (Nat.lt_of_lt_of_le h z.1)))) (fun h => fx_rankOf H h1 (by omega) (br_c (fun e => hS i (by omega) ⟨h, e⟩ hv) (fun e => nm_r (nI_1 i) (I (fun z => e z.2))))) rfl ex (by omega) (by omega)⟩
theorem fx_wordAtRank {post : Int32 → SX → Prop} (H : fx_ok wd ln q m c cs) {K : Nat} (hK : K ≤ 3) {r : Int32} {rc ro : Nat → Int32} (hS : ∀ w, w < c → ft_at wd ln q m c ws K r w → (∀ v, v < w → ¬ ft_at wd ln q m c ws K r v) → ∀ rc ro, (∀ j, j < c → rc j = nI (ft_re wd ln q m j)) → post (nI w) (nI K, dc, nI (ft_cd q m), nI c, cs, ws, rc, ro)) (hN : (∀ w, w < c → ¬ ft_at wd ln q m c ws K r w) → ∀ rc ro, post (-4) (nI K, dc, nI (ft_cd q m), nI c, cs, ws, rc, ro)) : wpX_wordAtRank post (nI K, dc, nI (ft_cd q m), nI c, cs, ws, rc, ro) r :=
  fx_measureReach H (fun rc ro h => ⟨c + 1, fx_war_6 H hK h (fun w a b d => hS w a b d rc ro h) (fun a => hN a rc ro) c 0 (c + 1) (by omega) (by omega) lt_0⟩)
/-! the query as a beginning -/
theorem fx_bwq_4 {post : Int32 → Prop} {ct : Int32} {rc ro : Nat → Int32} {w : Nat → Nat} {L : Nat} (hq : ∀ i, q i < 4) (hw : ∀ i, w i < 4) (hm : m ≤ 6) (hL : L ≤ 6) (hT : ft_bg q m w L → post 1) (hF : ¬ ft_bg q m w L → post 0) : ∀ k j n, j + k = L → k < n → (ft_bg q m w L → m ≤ k) → wX_beginsWithQuery_4 post lm dc (nI (ft_cd q m)) ct cs ws rc ro n (nI (ft_cd w k)) (nI j) := by
  have fin : ∀ k, k ≤ L → (ft_bg q m w L → m ≤ k) → ft_cd w k ≤ ft_cd q m → wX_beginsWithQuery_28 post (nI (ft_cd w k)) lm dc (nI (ft_cd q m)) ct cs ws rc ro := by
    intro k hk hi hle
    refine pk_eq (ft_cd w k) (ft_cd q m) (fun e => hT (ft_cd_bg hq hw hk e).2) (fun e => hF (fun b => ?_)) rfl rfl (fx_b hw (by omega)) (fx_b hq hm)
    have e1 := ft_bg_cd b
    have e2 := hi b
    by_cases e3 : m = k
    · subst e3; exact e e1
    · have := ft_cd_mono w (k := m) (n := k) (by omega)
      omega
  intro k
  induction k with
  | zero =>
    intro j n hj hn hi
    obtain ⟨n, rfl⟩ := ft_fuel hn
    have f := fin 0 (Nat.zero_le L) hi (Nat.zero_le _)
    exact br_c (fun _ => f) (fun _ => br_t (nI_le (a := 0) (Nat.zero_le _) (fx_b hq hm)) f)
  | succ k ih =>
    intro j n hj hn hi
    obtain ⟨n, rfl⟩ := ft_fuel hn
    refine br_f (nI_ge (b := 6) (by omega) (by decide)) (pk_le (ft_cd w (k + 1)) (ft_cd q m) (fun h => fin (k + 1) (by omega) hi h) (fun h => ⟨fx_5, nm_r (fx_d5 hw (by omega)) (nm_r (nI_1 j) (ih (j + 1) n (by omega) (by omega) (fun b => ?_)))⟩) rfl rfl (fx_b hw (by omega)) (fx_b hq hm))
    have e1 := ft_bg_cd b
    have e2 := hi b
    by_cases e3 : m = k + 1
    · subst e3; omega
    · omega
theorem fx_beginsWithQuery {post : Int32 → Prop} {ct : Int32} {rc ro : Nat → Int32} {w : Nat → Nat} {L : Nat} {x : Int32} (hx : x = nI (ft_cd w L)) (hq : ∀ i, q i < 4) (hw : ∀ i, w i < 4) (hm : m ≤ 6) (hL : L ≤ 6) (hT : ft_bg q m w L → post 1) (hF : ¬ ft_bg q m w L → post 0) : wpX_beginsWithQuery post (lm, dc, nI (ft_cd q m), ct, cs, ws, rc, ro) x := by
  subst hx
  exact ⟨L + 1, fx_bwq_4 hq hw hm hL hT hF L 0 (L + 1) (by omega) (by omega) (fun b => b.1)⟩
theorem fx_exact_4 {post : Int32 → Prop} (H : fx_ok wd ln q m c cs) {rc ro : Nat → Int32} (hp : post (nI (ft_cn (fun l => ft_bg q m (wd l) (ln l)) c))) : ∀ d i n, i + d = c → d < n → wX_exact_4 post lm dc (nI (ft_cd q m)) (nI c) cs ws rc ro n (nI (ft_cn (fun l => ft_bg q m (wd l) (ln l)) i)) (nI i) := by
  have hc := H.2.2.2.2.1
  intro d
  induction d with
  | zero =>
    intro i n hi hn
    obtain ⟨n, rfl⟩ := ft_fuel hn
    have e : i = c := by omega
    subst e
    exact br_t (nI_le (Nat.le_refl i) (by omega)) hp
  | succ d ih =>
    intro i n hi hn
    obtain ⟨n, rfl⟩ := ft_fuel hn
    have I := ih (i + 1) n (by omega) (by omega)
    have ex : cs (nI i).toNatClampNeg = nI (ft_cd (wd i) (ln i)) := by rw [nI_clamp (by omega)]; exact H.2.2.2.2.2 i (by omega)
    refine br_f (nI_ge (by omega) (by omega)) ⟨vp_in_nI (by omega) (by decide), fx_beginsWithQuery ex H.1 (H.2.2.1 i) H.2.1 (H.2.2.2.1 i) (fun h => br_f (by decide) (nm_r (nI_1 _) (nm_r (nI_1 i) ?_))) (fun h => br_t rfl (nm_r (nI_1 i) ?_))⟩
    · rw [ft_cn_t (p := fun l => ft_bg q m (wd l) (ln l)) (n := i) h] at I
      exact I
    · rw [ft_cn_f (p := fun l => ft_bg q m (wd l) (ln l)) (n := i) h] at I
      exact I
theorem fx_exact {post : Int32 → Prop} (H : fx_ok wd ln q m c cs) {rc ro : Nat → Int32} (hp : post (nI (ft_cn (fun l => ft_bg q m (wd l) (ln l)) c))) : wpX_exact post (lm, dc, nI (ft_cd q m), nI c, cs, ws, rc, ro) :=
  ⟨c + 1, fx_exact_4 H hp c 0 (c + 1) (by omega) (by omega)⟩
theorem fx_laq_4 {post : Int32 → Prop} {ct : Int32} {rc ro : Nat → Int32} {w : Nat → Nat} {L : Nat} (hq : ∀ i, q i < 4) (hw : ∀ i, w i < 4) (hm : m ≤ 6) (hL : L ≤ 6) (hT : ft_bg q m w L ∧ m < L → post ((1 : Int32) <<< (nI (w m) &&& 31))) (hF : ¬ (ft_bg q m w L ∧ m < L) → post 0) : ∀ k j n, j + k = L → k < n → (ft_bg q m w L ∧ m < L → m < k) → wX_letterAfterQuery_4 post lm dc (nI (ft_cd q m)) ct cs ws rc ro n (nI (ft_cd w k)) (nI j) := by
  intro k
  induction k with
  | zero =>
    intro j n hj hn hi
    obtain ⟨n, rfl⟩ := ft_fuel hn
    have f : post 0 := hF (fun b => absurd (hi b) (by omega))
    exact br_c (fun _ => f) (fun _ => br_t rfl f)
  | succ k ih =>
    intro j n hj hn hi
    obtain ⟨n, rfl⟩ := ft_fuel hn
    refine br_f (nI_ge (b := 6) (by omega) (by decide)) (br_f (fx_n0 hw (by omega)) ⟨fx_5, pk_eq (ft_cd w k) (ft_cd q m) (fun e => ?_) (fun e => ⟨fx_5, nm_r (fx_d5 hw (by omega)) (nm_r (nI_1 j) (ih (j + 1) n (by omega) (by omega) (fun b => ?_)))⟩) (fx_d5 hw (by omega)) rfl (fx_b hw (by omega)) (fx_b hq hm)⟩)
    · obtain ⟨e1, b⟩ := ft_cd_bg hq hw (n := L) (by omega) e
      subst e1
      exact fx_lastLetter hw (by omega) (hT ⟨b, by omega⟩)
    · have e1 := ft_bg_cd b.1
      have e2 := hi b
      by_cases e3 : m = k
      · subst e3; exact absurd e1 e
      · omega
theorem fx_letterAfterQuery {post : Int32 → Prop} {ct : Int32} {rc ro : Nat → Int32} {w : Nat → Nat} {L : Nat} {x : Int32} (hx : x = nI (ft_cd w L)) (hq : ∀ i, q i < 4) (hw : ∀ i, w i < 4) (hm : m ≤ 6) (hL : L ≤ 6) (hT : ft_bg q m w L ∧ m < L → post ((1 : Int32) <<< (nI (w m) &&& 31))) (hF : ¬ (ft_bg q m w L ∧ m < L) → post 0) : wpX_letterAfterQuery post (lm, dc, nI (ft_cd q m), ct, cs, ws, rc, ro) x := by
  subst hx
  exact ⟨L + 1, fx_laq_4 hq hw hm hL hT hF L 0 (L + 1) (by omega) (by omega) (fun b => b.2)⟩
/-- the letters that may follow -/
noncomputable def ft_fo (wd : Nat → Nat → Nat) (ln q : Nat → Nat) (m i : Nat) : Int32 := ft_or (fun l => ft_bg q m (wd l) (ln l) ∧ m < ln l) (fun l => (1 : Int32) <<< (nI (wd l m) &&& 31)) i
theorem fx_continues_4 {post : Int32 → Prop} (H : fx_ok wd ln q m c cs) {rc ro : Nat → Int32} (hp : post (ft_fo wd ln q m c)) : ∀ d i n, i + d = c → d < n → wX_continues_4 post lm dc (nI (ft_cd q m)) (nI c) cs ws rc ro n (ft_fo wd ln q m i) (nI i) := by
  have hc := H.2.2.2.2.1
  intro d
  induction d with
  | zero =>
    intro i n hi hn
    obtain ⟨n, rfl⟩ := ft_fuel hn
    have e : i = c := by omega
    subst e
    exact br_t (nI_le (Nat.le_refl i) (by omega)) hp
  | succ d ih =>
    intro i n hi hn
    obtain ⟨n, rfl⟩ := ft_fuel hn
    have I := ih (i + 1) n (by omega) (by omega)
    have ex : cs (nI i).toNatClampNeg = nI (ft_cd (wd i) (ln i)) := by rw [nI_clamp (by omega)]; exact H.2.2.2.2.2 i (by omega)
    refine br_f (nI_ge (by omega) (by omega)) ⟨vp_in_nI (by omega) (by decide), fx_letterAfterQuery ex H.1 (H.2.2.1 i) H.2.1 (H.2.2.2.1 i) (fun h => nm_r (?_ : _ = ft_fo wd ln q m (i + 1)) (nm_r (nI_1 i) I)) (fun h => nm_r (?_ : _ = ft_fo wd ln q m (i + 1)) (nm_r (nI_1 i) I))⟩
    · unfold ft_fo
      exact (ft_or_t (p := fun l => ft_bg q m (wd l) (ln l) ∧ m < ln l) h).symm
    · unfold ft_fo
      rw [ft_or_f (p := fun l => ft_bg q m (wd l) (ln l) ∧ m < ln l) h]
      exact Int32.or_zero
theorem fx_continues {post : Int32 → Prop} (H : fx_ok wd ln q m c cs) {rc ro : Nat → Int32} (hp : post (ft_fo wd ln q m c)) : wpX_continues post (lm, dc, nI (ft_cd q m), nI c, cs, ws, rc, ro) :=
  ⟨c + 1, fx_continues_4 H hp c 0 (c + 1) (by omega) (by omega)⟩
/-! the draft's word -/
theorem fx_find_2 {post : Int32 → Prop} {qc : Int32} {rc ro : Nat → Int32} {dr : Nat → Nat} {dm : Nat} (hdr : ∀ i, dr i < 4) (hdm : dm ≤ 6) (hwd : ∀ l i, wd l i < 4) (hln : ∀ l, ln l ≤ 6) (hc : c ≤ 12) (hcs : ∀ l, l < 12 → cs l = nI (ft_cd (wd l) (ln l))) (hS : ∀ w, w < c → ft_cd (wd w) (ln w) = ft_cd dr dm → (∀ v, v < w → ¬ ft_cd (wd v) (ln v) = ft_cd dr dm) → post (nI w)) (hN : (∀ w, w < c → ¬ ft_cd (wd w) (ln w) = ft_cd dr dm) → post (-4)) : ∀ d i n, i + d = c → d < n → (∀ v, v < i → ¬ ft_cd (wd v) (ln v) = ft_cd dr dm) → wX_findDraft_2 post lm (nI (ft_cd dr dm)) qc (nI c) cs ws rc ro n (nI i) := by
  intro d
  induction d with
  | zero =>
    intro i n hi hn hv
    obtain ⟨n, rfl⟩ := ft_fuel hn
    have e : i = c := by omega
    subst e
    exact br_t (nI_le (Nat.le_refl i) (by omega)) (hN hv)
  | succ d ih =>
    intro i n hi hn hv
    obtain ⟨n, rfl⟩ := ft_fuel hn
    have ex : cs (nI i).toNatClampNeg = nI (ft_cd (wd i) (ln i)) := by rw [nI_clamp (by omega)]; exact hcs i (by omega)
    exact br_f (nI_ge (by omega) (by omega)) ⟨vp_in_nI (by omega) (by decide), pk_eq (ft_cd (wd i) (ln i)) (ft_cd dr dm) (fun e => hS i (by omega) e hv) (fun e => nm_r (nI_1 i) (ih (i + 1) n (by omega) (by omega) (lt_s hv e))) ex rfl (fx_b (hwd i) (hln i)) (fx_b hdr hdm)⟩
theorem fx_findDraft {post : Int32 → Prop} {qc : Int32} {rc ro : Nat → Int32} {dr : Nat → Nat} {dm : Nat} (hdr : ∀ i, dr i < 4) (hdm : dm ≤ 6) (hwd : ∀ l i, wd l i < 4) (hln : ∀ l, ln l ≤ 6) (hc : c ≤ 12) (hcs : ∀ l, l < 12 → cs l = nI (ft_cd (wd l) (ln l))) (hS : ∀ w, w < c → ft_cd (wd w) (ln w) = ft_cd dr dm → (∀ v, v < w → ¬ ft_cd (wd v) (ln v) = ft_cd dr dm) → post (nI w)) (hN : (∀ w, w < c → ¬ ft_cd (wd w) (ln w) = ft_cd dr dm) → post (-4)) : wpX_findDraft post (lm, nI (ft_cd dr dm), qc, nI c, cs, ws, rc, ro) :=
  ⟨c + 1, fx_find_2 hdr hdm hwd hln hc hcs hS hN c 0 (c + 1) (by omega) (by omega) lt_0⟩
end
