theorem fr_0 {K : Nat} (hK : K ≤ 3) : i_Rel 1 (nI K, 0, 0, 0, (fun _ => 0), (fun _ => 0), (fun _ => 0), (fun _ => 0)) (nI K, 0, (fun _ => 0), (fun _ => 0), (fun _ => 0), (fun _ => 0)) :=
  fr_mk (c := 0) (g := fun _ => 0) (h := fun _ => 0) rfl rfl rfl hK (by omega) ⟨fun _ => (by decide : 0 < 4), fun _ => Nat.zero_le 6, fun _ => rfl, fun _ => rfl⟩ (fun _ _ => rfl)
theorem i_vc0 (k0 : Int32) : wpX_init (fun u => wpY_init (fun v => i_Rel 1 u v) k0) k0 := by
  refine br_c (fun h0 => br_c (fun h3 => ?_) (fun h3 => br_t h0 (br_f h3 (fr_0 (K := 3) (by omega))))) (fun h0 => br_f h0 (fr_0 (K := 0) (by omega)))
  obtain ⟨j, hj, e⟩ := nI_of2 (M := 3) (n := 3) (by decide) (Int32.not_lt.mpr h0) h3
  refine br_t h0 (br_t h3 ?_)
  rw [e]
  exact fr_0 hj
theorem i_vc_draft {k : Nat} {u : SX} {v : SY} (I : i_Rel k u v) (hk : k + 2 ≤ 1025) (v1 : Int32) : wpX_draft (fun r u' => wpY_draft (fun r' v' => r' = r ∧ i_Rel (k + 2) u' v') v v1) u v1 := by
  obtain ⟨K, c, g, h, cs, ws, rc, ro, la, le, tb, rfl, rfl, hK, hc, H, hcs⟩ := I
  have R : i_Rel (k + 2) (nI K, nI (ft_cd (ft_sl g 12) (h 12)), nI (ft_cd (ft_sl g 13) (h 13)), nI c, cs, ws, rc, ro) (nI K, nI c, la, le, ws, tb) := fr_mk rfl rfl rfl hK hc H hcs
  unfold wpX_draft
  dsimp only
  refine fx_lengthWith (fy_sl4 H 12) (H.2.1 12) (fun n => br_t (by decide) ?_) (fun n n3 => br_t (by decide) ?_) (fun n n3 q => br_t (by decide) ?_) (fun n n3 q => br_f (nI_nle (by omega) (by omega)) ?_)
  · unfold wpY_draft
    dsimp only
    exact fy_append H 12 (by decide) rfl (fun _ => ⟨rfl, R⟩) (fun z => absurd n z) (fun z => absurd n z) (fun z => absurd n z)
  · unfold wpY_draft
    dsimp only
    exact fy_append H 12 (by decide) rfl (fun z => absurd z n) (fun _ _ => ⟨rfl, R⟩) (fun _ z => absurd z n3) (fun _ z => absurd z n3)
  · unfold wpY_draft
    dsimp only
    exact fy_append H 12 (by decide) rfl (fun z => absurd z n) (fun _ z => absurd n3 z) (fun _ _ _ => ⟨rfl, R⟩) (fun _ _ z => absurd z (by omega))
  · unfold wpX_append wpY_draft
    dsimp only
    refine fy_append H 12 (by decide) rfl (fun z => absurd z n) (fun _ z => absurd n3 z) (fun _ _ z => absurd z (by omega)) (fun _ _ _ x la' le' ex hx h1 h2 => ⟨rfl, ?_⟩)
    refine fr_mk (g := ft_up g (6 * 12 + h 12) x) (h := ft_up h 12 (h 12 + 1)) ?_ ?_ rfl hK hc (fr_app_ok H q hx h1 h2) (fun l hl => ?_)
    · rw [fr_app_s]; exact fr_code ex
    · rw [fr_app_n g h x H.2.1 q (by decide)]
    · rw [fr_app_n g h x H.2.1 q (by omega)]; exact hcs l hl
theorem i_vc_type {k : Nat} {u : SX} {v : SY} (I : i_Rel k u v) (hk : k + 2 ≤ 1025) (v1 : Int32) : wpX_type (fun r u' => wpY_type (fun r' v' => r' = r ∧ i_Rel (k + 2) u' v') v v1) u v1 := by
  obtain ⟨K, c, g, h, cs, ws, rc, ro, la, le, tb, rfl, rfl, hK, hc, H, hcs⟩ := I
  have R : i_Rel (k + 2) (nI K, nI (ft_cd (ft_sl g 12) (h 12)), nI (ft_cd (ft_sl g 13) (h 13)), nI c, cs, ws, rc, ro) (nI K, nI c, la, le, ws, tb) := fr_mk rfl rfl rfl hK hc H hcs
  unfold wpX_type
  dsimp only
  refine fx_lengthWith (fy_sl4 H 13) (H.2.1 13) (fun n => br_t (by decide) ?_) (fun n n3 => br_t (by decide) ?_) (fun n n3 q => br_t (by decide) ?_) (fun n n3 q => br_f (nI_nle (by omega) (by omega)) ?_)
  · unfold wpY_type
    dsimp only
    exact fy_append H 13 (by decide) rfl (fun _ => ⟨rfl, R⟩) (fun z => absurd n z) (fun z => absurd n z) (fun z => absurd n z)
  · unfold wpY_type
    dsimp only
    exact fy_append H 13 (by decide) rfl (fun z => absurd z n) (fun _ _ => ⟨rfl, R⟩) (fun _ z => absurd z n3) (fun _ z => absurd z n3)
  · unfold wpY_type
    dsimp only
    exact fy_append H 13 (by decide) rfl (fun z => absurd z n) (fun _ z => absurd n3 z) (fun _ _ _ => ⟨rfl, R⟩) (fun _ _ z => absurd z (by omega))
  · unfold wpX_append wpY_type
    dsimp only
    refine fy_append H 13 (by decide) rfl (fun z => absurd z n) (fun _ z => absurd n3 z) (fun _ _ z => absurd z (by omega)) (fun _ _ _ x la' le' ex hx h1 h2 => ⟨rfl, ?_⟩)
    refine fr_mk (g := ft_up g (6 * 13 + h 13) x) (h := ft_up h 13 (h 13 + 1)) ?_ ?_ rfl hK hc (fr_app_ok H q hx h1 h2) (fun l hl => ?_)
    · rw [fr_app_n g h x H.2.1 q (by decide)]
    · rw [fr_app_s]; exact fr_code ex
    · rw [fr_app_n g h x H.2.1 q (by omega)]; exact hcs l hl
theorem fr_drop {k K c : Nat} {g h : Nat → Nat} {cs ws rc ro la le tb : Nat → Int32} {qc : Int32} (hq : qc = nI (ft_cd (ft_sl g 13) (h 13))) (hK : K ≤ 3) (hc : c ≤ 12) (H : fy_ok g h la le) (hcs : ∀ l, l < 12 → cs l = nI (ft_cd (ft_sl g l) (h l))) : i_Rel k (nI K, 0, qc, nI c, cs, ws, rc, ro) (nI K, nI c, la, upd le 12 0, ws, tb) :=
  fr_mk (g := g) (h := ft_up h 12 0) (fr_e0 g h 12) hq rfl hK hc ⟨H.1, fr_h6 H.2.1 (by omega), H.2.2.1, fr_le H.2.2.2 rfl⟩ (fun l hl => by rw [ft_up_n _ _ (by omega)]; exact hcs l hl)
theorem i_vc_scrap {k : Nat} {u : SX} {v : SY} (I : i_Rel k u v) (hk : k + 2 ≤ 1025) : wpX_scrap (fun u' => wpY_scrap (fun v' => i_Rel (k + 2) u' v') v) u := by
  obtain ⟨K, c, g, h, cs, ws, rc, ro, la, le, tb, rfl, rfl, hK, hc, H, hcs⟩ := I
  exact nm_e (fr_drop rfl hK hc H hcs)
theorem i_vc_reset {k : Nat} {u : SX} {v : SY} (I : i_Rel k u v) (hk : k + 2 ≤ 1025) : wpX_reset (fun u' => wpY_reset (fun v' => i_Rel (k + 2) u' v') v) u := by
  obtain ⟨K, c, g, h, cs, ws, rc, ro, la, le, tb, rfl, rfl, hK, hc, H, hcs⟩ := I
  exact nm_e (fr_mk (g := g) (h := ft_up h 13 0) rfl (fr_e0 g h 13) rfl hK hc ⟨H.1, fr_h6 H.2.1 (by omega), H.2.2.1, fr_le H.2.2.2 rfl⟩ (fun l hl => by rw [ft_up_n _ _ (by omega)]; exact hcs l hl))
theorem i_vc_words {k : Nat} {u : SX} {v : SY} (I : i_Rel k u v) (hk : k + 2 ≤ 1025) : wpX_words (fun r => wpY_words (fun r' => r' = r ∧ i_Rel (k + 2) u v) v) u := by
  have I' := i_up I
  obtain ⟨K, c, g, h, cs, ws, rc, ro, la, le, tb, rfl, rfl, hK, hc, H, hcs⟩ := I
  exact ⟨rfl, I'⟩
theorem i_vc_length {k : Nat} {u : SX} {v : SY} (I : i_Rel k u v) (hk : k + 2 ≤ 1025) : wpX_length (fun r => wpY_length (fun r' => r' = r ∧ i_Rel (k + 2) u v) v) u := by
  have I' := i_up I
  obtain ⟨K, c, g, h, cs, ws, rc, ro, la, le, tb, rfl, rfl, hK, hc, H, hcs⟩ := I
  exact fx_lengthOf (fy_sl4 H 13) (H.2.1 13) ⟨H.2.2.2 13, I'⟩
theorem i_vc_weight {k : Nat} {u : SX} {v : SY} (I : i_Rel k u v) (hk : k + 2 ≤ 1025) : wpX_weight (fun r => wpY_weight (fun r' => r' = r ∧ i_Rel (k + 2) u v) v) u := by
  have I' := i_up I
  obtain ⟨K, c, g, h, cs, ws, rc, ro, la, le, tb, rfl, rfl, hK, hc, H, hcs⟩ := I
  refine fx_findDraft (fy_sl4 H 12) (H.2.1 12) (fy_sl4 H) H.2.1 hc hcs (fun w hw pw mw => br_f (fr_n4 (by omega)) ⟨vp_in_nI (by omega) (by decide), ?_⟩) (fun nw => br_t rfl ?_)
  · refine fy_drafted H hc (fun v hv pv mv => ?_) (fun nv => absurd pw (nv w hw))
    cases fr_u (p := fun w => ft_cd (ft_sl g w) (h w) = ft_cd (ft_sl g 12) (h 12)) pw mw pv mv
    exact br_f (fr_n4 (by omega)) ⟨vp_in_nI (by omega) (by decide), rfl, I'⟩
  · exact fy_drafted H hc (fun v hv pv mv => absurd pv (nw v hv)) (fun nv => br_t rfl ⟨rfl, I'⟩)
theorem i_vc_backspace {k : Nat} {u : SX} {v : SY} (I : i_Rel k u v) (hk : k + 2 ≤ 1025) : wpX_backspace (fun r u' => wpY_backspace (fun r' v' => r' = r ∧ i_Rel (k + 2) u' v') v) u := by
  have I' := i_up I
  obtain ⟨K, c, g, h, cs, ws, rc, ro, la, le, tb, rfl, rfl, hK, hc, H, hcs⟩ := I
  have h6 := H.2.1 13
  refine fx_0 (fy_sl4 H 13) h6 (fun q => pk_eq (h 13) 0 (fun _ => ⟨rfl, I'⟩) (fun z => absurd q z) (H.2.2.2 13) rfl (by omega) (by omega)) (fun q => ?_)
  obtain ⟨m, em⟩ : ∃ m, h 13 = m + 1 := ⟨h 13 - 1, by omega⟩
  rw [em]
  refine fx_lastLetter (fy_sl4 H 13) (by omega) ⟨fx_5, nm_r (fx_d5 (fy_sl4 H 13) (by omega)) (pk_eq (h 13) 0 (fun z => absurd z (by omega)) (fun _ => nm_r (?_ : _ = upd le 13 (nI m)) ?_) (H.2.2.2 13) rfl (by omega) (by omega))⟩
  · rw [H.2.2.2 13, em, nI_pred]
  · have e : (78 : Int32) + upd le 13 (nI m) 13 = nI (78 + m) := by rw [pk_us]; exact nI_add 78 m
    refine ⟨by rw [e]; exact vp_in_nI (by omega) (by decide), ?_, ?_⟩
    · rw [e, nI_clamp (by omega), H.2.2.1]; rfl
    · exact fr_mk (g := g) (h := ft_up h 13 m) rfl (by rw [ft_up_s]) rfl hK hc ⟨H.1, fr_h6 H.2.1 (by omega), H.2.2.1, fr_le H.2.2.2 rfl⟩ (fun l hl => by rw [ft_up_n _ _ (by omega)]; exact hcs l hl)
theorem fr_put {h : Nat → Nat} {g : Nat → Nat} {la le cs : Nat → Int32} (H : fy_ok g h la le) (hcs : ∀ l, l < 12 → cs l = nI (ft_cd (ft_sl g l) (h l))) {a b : Nat} (hb : b < 12) {x : Int32} (hx : x = nI (ft_cd (ft_sl g a) (h a))) : ∀ l, l < 12 → upd cs b x l = nI (ft_cd (ft_sl (ft_cp g a b (h a)) l) (ft_up h b (h a) l)) := fun l hl => by
  by_cases q : l = b
  · subst q
    rw [pk_us, ft_up_s, fr_cp_b, hx]
  · rw [pk_un q, ft_up_n _ _ q, fr_cp_n g h H.2.1 q (H.2.1 l)]
    exact hcs l hl
theorem fr_copied {g h : Nat → Nat} {la le la' : Nat → Int32} (H : fy_ok g h la le) {a b : Nat} (h1 : ∀ j, la' j = nI (ft_cp g a b (h a) j)) : fy_ok (ft_cp g a b (h a)) (ft_up h b (h a)) la' (upd le b (nI (h a))) :=
  ⟨fr_cp_4 H.1 a b (h a), fr_h6 H.2.1 (H.2.1 a), h1, fr_le H.2.2.2 rfl⟩
theorem fr_query {g h : Nat → Nat} {la le : Nat → Int32} (H : fy_ok g h la le) {a b : Nat} (hb : b < 12) : nI (ft_cd (ft_sl g 13) (h 13)) = nI (ft_cd (ft_sl (ft_cp g a b (h a)) 13) (ft_up h b (h a) 13)) := by
  rw [ft_up_n _ _ (by omega), fr_cp_n g h H.2.1 (by omega) (H.2.1 13)]
theorem i_vc_add {k : Nat} {u : SX} {v : SY} (I : i_Rel k u v) (hk : k + 2 ≤ 1025) (v1 : Int32) : wpX_add (fun r u' => wpY_add (fun r' v' => r' = r ∧ i_Rel (k + 2) u' v') v v1) u v1 := by
  have I' := i_up I
  obtain ⟨K, c, g, h, cs, ws, rc, ro, la, le, tb, rfl, rfl, hK, hc, H, hcs⟩ := I
  have h6 := H.2.1 12
  refine br_c (fun n0 => br_t n0 ⟨rfl, I'⟩) (fun n0 => br_c (fun n9 => br_f n0 (br_t n9 ⟨rfl, I'⟩)) (fun n9 => fx_0 (fy_sl4 H 12) h6 (fun q => br_f n0 (br_f n9 (pk_eq (h 12) 0 (fun _ => ⟨rfl, I'⟩) (fun z => absurd q z) (H.2.2.2 12) rfl (by omega) (by omega)))) (fun q => ?_)))
  have Y : ∀ {A B : Prop}, B → ((le 12 = 0 → A) ∧ (¬ le 12 = 0 → B)) := fun b => br_f (by rw [H.2.2.2 12]; exact nI_ne0 q (by omega)) b
  refine fx_findDraft (fy_sl4 H 12) h6 (fy_sl4 H) H.2.1 hc hcs (fun w hw pw mw => ?_) (fun nw => ?_)
  · have n4 := fr_n4 (w := w) (by omega)
    have vi : vp_in (nI w) 12 := vp_in_nI (by omega) (by decide)
    refine br_f n4 (br_f n4 ⟨vi, nm_e (br_f n0 (br_f n9 (Y (fy_drafted H hc (fun v hv pv mv => ?_) (fun nv => absurd pw (nv w hw))))))⟩)
    cases fr_u (p := fun w => ft_cd (ft_sl g w) (h w) = ft_cd (ft_sl g 12) (h 12)) pw mw pv mv
    exact br_f n4 (br_f n4 ⟨vi, nm_e (nm_e (br_f n4 ⟨rfl, fr_drop rfl hK hc H hcs⟩))⟩)
  · refine br_t rfl (pk_lt c 12 (fun c12 => ?_) (fun c12 => ?_) rfl rfl (by omega) (by omega))
    · have vi : vp_in (nI c) 12 := vp_in_nI c12 (by decide)
      refine br_t rfl ⟨vi, nm_e (nm_r (nI_1 c) ⟨vi, nm_e (br_f n0 (br_f n9 (Y (fy_drafted H hc (fun v hv pv mv => absurd pv (nw v hv)) (fun nv => br_t rfl (pk_eq c 12 (fun z => absurd z (by omega)) (fun _ => br_t rfl (fy_copy H 12 c (by decide) (by omega) rfl rfl (fun la' hla' => ⟨vi, nm_e (nm_r (nI_1 c) (nm_e (br_t rfl ⟨rfl, ?_⟩)))⟩))) rfl rfl (by omega) (by omega)))))))⟩)⟩
      rw [nI_clamp (by omega)]
      exact fr_drop (fr_query H c12) hK c12 (fr_copied H hla') (fr_put H hcs c12 rfl)
    · exact br_f n0 (br_f n9 (Y (fy_drafted H hc (fun v hv pv mv => absurd pv (nw v hv)) (fun nv => br_t rfl (pk_eq c 12 (fun _ => ⟨rfl, I'⟩) (fun z => absurd z (by omega)) rfl rfl (by omega) (by omega))))))
theorem i_vc_remove {k : Nat} {u : SX} {v : SY} (I : i_Rel k u v) (hk : k + 2 ≤ 1025) : wpX_remove (fun r u' => wpY_remove (fun r' v' => r' = r ∧ i_Rel (k + 2) u' v') v) u := by
  have I' := i_up I
  obtain ⟨K, c, g, h, cs, ws, rc, ro, la, le, tb, rfl, rfl, hK, hc, H, hcs⟩ := I
  have h6 := H.2.1 12
  refine fx_0 (fy_sl4 H 12) h6 (fun q => pk_eq (h 12) 0 (fun _ => ⟨rfl, I'⟩) (fun z => absurd q z) (H.2.2.2 12) rfl (by omega) (by omega)) (fun q => ?_)
  have Y : ∀ {A B : Prop}, B → ((le 12 = 0 → A) ∧ (¬ le 12 = 0 → B)) := fun b => br_f (by rw [H.2.2.2 12]; exact nI_ne0 q (by omega)) b
  refine fx_findDraft (fy_sl4 H 12) h6 (fy_sl4 H) H.2.1 hc hcs (fun w hw pw mw => ?_) (fun nw => br_t rfl (Y (fy_drafted H hc (fun v hv pv mv => absurd pv (nw v hv)) (fun nv => br_t rfl ⟨rfl, I'⟩))))
  obtain ⟨d, ed⟩ : ∃ d, c = d + 1 := ⟨c - 1, by omega⟩
  subst ed
  have n4 := fr_n4 (w := w) (by omega)
  have vi : vp_in (nI w) 12 := vp_in_nI (by omega) (by decide)
  have vd : vp_in (nI d) 12 := vp_in_nI (by omega) (by decide)
  refine br_f n4 ⟨vi, nm_e (nm_r (nI_pred d) ⟨vd, vi, nm_e ⟨vd, vi, nm_e (Y (fy_drafted H hc (fun v hv pv mv => ?_) (fun nv => absurd pw (nv w hw))))⟩⟩)⟩
  cases fr_u (p := fun w => ft_cd (ft_sl g w) (h w) = ft_cd (ft_sl g 12) (h 12)) pw mw pv mv
  refine br_f n4 ⟨vi, nm_e (nm_r (nI_pred d) (fy_copy H d w (by omega) (by omega) rfl rfl (fun la' hla' => ⟨vd, vi, nm_e (nm_e ⟨rfl, ?_⟩)⟩)))⟩
  rw [nI_clamp (by omega), nI_clamp (by omega)]
  exact fr_drop (fr_query H (by omega)) hK (by omega) (fr_copied H hla') (fr_put H hcs (by omega) (hcs d (by omega)))
theorem i_vc_offered {k : Nat} {u : SX} {v : SY} (I : i_Rel k u v) (hk : k + 2 ≤ 1025) : wpX_offered (fun r u' => wpY_offered (fun r' v' => r' = r ∧ i_Rel (k + 2) u' v') v) u := by
  obtain ⟨K, c, g, h, cs, ws, rc, ro, la, le, tb, rfl, rfl, hK, hc, H, hcs⟩ := I
  exact fx_offered (fr_ok H hc hcs) hK (fun rc ro => fy_offered H hK hc (fun tb => ⟨rfl, fr_mk rfl rfl rfl hK hc H hcs⟩))
theorem i_vc_offer {k : Nat} {u : SX} {v : SY} (I : i_Rel k u v) (hk : k + 2 ≤ 1025) (v1 : Int32) : wpX_offer (fun r u' => wpY_offer (fun r' v' => r' = r ∧ i_Rel (k + 2) u' v') v v1) u v1 := by
  obtain ⟨K, c, g, h, cs, ws, rc, ro, la, le, tb, rfl, rfl, hK, hc, H, hcs⟩ := I
  unfold wpX_offer
  dsimp only
  refine fx_wordAtRank (fr_ok H hc hcs) hK (fun w hw pw mw rc ro hr => br_f (fr_n4 (by omega)) ⟨vp_in_nI (by omega) (by decide), ?_⟩) (fun nw rc ro => br_t rfl ?_)
  · unfold wpY_offer
    dsimp only
    refine fy_wordAt H hK hc (fun v hv pv mv tb => ?_) (fun nv => absurd pw (nv w hw))
    cases fr_u (p := ft_at (ft_sl g) h (ft_sl g 13) (h 13) c ws K v1) pw mw pv mv
    refine br_f (fr_n4 (by omega)) ⟨h w + 1, fy_offer_20 H (by omega) ⟨?_, fr_mk rfl rfl rfl hK hc H hcs⟩ (h w) 0 (h w + 1) (by omega) (by omega)⟩
    rw [nI_clamp (by omega)]
    exact (hcs w (by omega)).symm
  · unfold wpY_offer
    dsimp only
    exact fy_wordAt H hK hc (fun v hv pv mv tb => absurd pv (nw v hv)) (fun nv tb => br_t rfl ⟨rfl, fr_mk rfl rfl rfl hK hc H hcs⟩)
theorem i_vc_distance {k : Nat} {u : SX} {v : SY} (I : i_Rel k u v) (hk : k + 2 ≤ 1025) (v1 : Int32) : wpX_distance (fun r u' => wpY_distance (fun r' v' => r' = r ∧ i_Rel (k + 2) u' v') v v1) u v1 := by
  obtain ⟨K, c, g, h, cs, ws, rc, ro, la, le, tb, rfl, rfl, hK, hc, H, hcs⟩ := I
  unfold wpX_distance
  dsimp only
  refine fx_wordAtRank (fr_ok H hc hcs) hK (fun w hw pw mw rc ro hr => br_f (fr_n4 (by omega)) ⟨vp_in_nI (by omega) (by decide), ?_⟩) (fun nw rc ro => br_t rfl ?_)
  · unfold wpY_distance
    dsimp only
    refine fy_wordAt H hK hc (fun v hv pv mv tb => ?_) (fun nv => absurd pw (nv w hw))
    cases fr_u (p := ft_at (ft_sl g) h (ft_sl g 13) (h 13) c ws K v1) pw mw pv mv
    refine br_f (fr_n4 (by omega)) (fy_reach H (by omega) (fun tb => ⟨?_, fr_mk rfl rfl rfl hK hc H hcs⟩))
    rw [nI_clamp (by omega)]
    exact (hr w hw).symm
  · unfold wpY_distance
    dsimp only
    exact fy_wordAt H hK hc (fun v hv pv mv tb => absurd pv (nw v hv)) (fun nv tb => br_t rfl ⟨rfl, fr_mk rfl rfl rfl hK hc H hcs⟩)
theorem i_vc_weightAt {k : Nat} {u : SX} {v : SY} (I : i_Rel k u v) (hk : k + 2 ≤ 1025) (v1 : Int32) : wpX_weightAt (fun r u' => wpY_weightAt (fun r' v' => r' = r ∧ i_Rel (k + 2) u' v') v v1) u v1 := by
  obtain ⟨K, c, g, h, cs, ws, rc, ro, la, le, tb, rfl, rfl, hK, hc, H, hcs⟩ := I
  unfold wpX_weightAt
  dsimp only
  refine fx_wordAtRank (fr_ok H hc hcs) hK (fun w hw pw mw rc ro hr => br_f (fr_n4 (by omega)) ⟨vp_in_nI (by omega) (by decide), ?_⟩) (fun nw rc ro => br_t rfl ?_)
  · unfold wpY_weightAt
    dsimp only
    refine fy_wordAt H hK hc (fun v hv pv mv tb => ?_) (fun nv => absurd pw (nv w hw))
    cases fr_u (p := ft_at (ft_sl g) h (ft_sl g 13) (h 13) c ws K v1) pw mw pv mv
    exact br_f (fr_n4 (by omega)) ⟨vp_in_nI (by omega) (by decide), rfl, fr_mk rfl rfl rfl hK hc H hcs⟩
  · unfold wpY_weightAt
    dsimp only
    exact fy_wordAt H hK hc (fun v hv pv mv tb => absurd pv (nw v hv)) (fun nv tb => br_t rfl ⟨rfl, fr_mk rfl rfl rfl hK hc H hcs⟩)
theorem i_vc_nearest {k : Nat} {u : SX} {v : SY} (I : i_Rel k u v) (hk : k + 2 ≤ 1025) : wpX_nearest (fun r u' => wpY_nearest (fun r' v' => r' = r ∧ i_Rel (k + 2) u' v') v) u := by
  obtain ⟨K, c, g, h, cs, ws, rc, ro, la, le, tb, rfl, rfl, hK, hc, H, hcs⟩ := I
  have e := ft_mn_bs (K + 1) (by omega) (ft_ed (ft_sl g) h (ft_sl g 13) (h 13)) c
  refine fx_nearest (fr_ok H hc hcs) hK (fun q ro => fy_nearest H hK hc (fun q' tb => ⟨?_, fr_mk rfl rfl rfl hK hc H hcs⟩) (fun q' => absurd q' (by omega))) (fun q ro => fy_nearest H hK hc (fun q' => absurd q' (by omega)) (fun q' tb => ⟨rfl, fr_mk rfl rfl rfl hK hc H hcs⟩))
  congr 1
  omega
theorem i_vc_exact {k : Nat} {u : SX} {v : SY} (I : i_Rel k u v) (hk : k + 2 ≤ 1025) : wpX_exact (fun r => wpY_exact (fun r' => r' = r ∧ i_Rel (k + 2) u v) v) u := by
  have I' := i_up I
  obtain ⟨K, c, g, h, cs, ws, rc, ro, la, le, tb, rfl, rfl, hK, hc, H, hcs⟩ := I
  exact fx_exact (fr_ok H hc hcs) (fy_exact H hc ⟨rfl, I'⟩)
theorem i_vc_continues {k : Nat} {u : SX} {v : SY} (I : i_Rel k u v) (hk : k + 2 ≤ 1025) : wpX_continues (fun r => wpY_continues (fun r' => r' = r ∧ i_Rel (k + 2) u v) v) u := by
  have I' := i_up I
  obtain ⟨K, c, g, h, cs, ws, rc, ro, la, le, tb, rfl, rfl, hK, hc, H, hcs⟩ := I
  exact fx_continues (fr_ok H hc hcs) (fy_continues H hc ⟨rfl, I'⟩)
