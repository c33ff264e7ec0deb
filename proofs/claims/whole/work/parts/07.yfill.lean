def fy_T (D : Nat → Nat → Nat) (L : Nat) (tb : Nat → Int32) (i j : Nat) : Prop := ∀ a b, (a < i ∧ b ≤ L ∨ a = i ∧ b < j) → tb (a * 7 + b) = nI (D a b)
theorem fy_Tup {D : Nat → Nat → Nat} {L : Nat} {tb : Nat → Int32} {i : Nat} (h : fy_T D L tb i (L + 1)) : fy_T D L tb (i + 1) 0 := fun a b q => h a b (by omega)
theorem fy_Tput {D : Nat → Nat → Nat} {L : Nat} (hL : L ≤ 6) {tb : Nat → Int32} {i j : Nat} (hj : j ≤ L) (h : fy_T D L tb i j) : fy_T D L (upd tb (i * 7 + j) (nI (D i j))) i (j + 1) := by
  intro a b q
  by_cases e : a * 7 + b = i * 7 + j
  · have e1 : a = i := by omega
    have e2 : b = j := by omega
    subst e1 e2
    exact pk_us
  · rw [pk_un e]
    exact h a b (by omega)
theorem fy_pre {i j : Nat} : nI (i + 1) * (7 : Int32) + nI (j + 1) - 1 = nI ((i + 1) * 7 + j) := by
  rw [fy_ix7, ← Nat.add_assoc, nI_pred]
theorem fy_dia {i j : Nat} : (nI (i + 1) - 1) * (7 : Int32) + nI (j + 1) - 1 = nI (i * 7 + j) := by
  rw [nI_pred, fy_ix7, ← Nat.add_assoc, nI_pred]
theorem fy_abo {i j : Nat} : (nI (i + 1) - 1) * (7 : Int32) + nI (j + 1) = nI (i * 7 + (j + 1)) := by
  rw [nI_pred, fy_ix7]
theorem fy_q78 {i : Nat} : (78 : Int32) + nI (i + 1) - 1 = nI (78 + i) := by
  have e : (78 : Int32) = nI 78 := rfl
  rw [e, nI_add, ← Nat.add_assoc, nI_pred]
theorem fy_w6 {l j : Nat} : (6 : Int32) * nI l + nI (j + 1) - 1 = nI (6 * l + j) := by
  rw [fy_ix, ← Nat.add_assoc, nI_pred]
section
variable {g h : Nat → Nat} {la le ws : Nat → Int32} {lm ct : Int32}
theorem fy_fill_15 {post : SY → Prop} {J2 : Int32 → (Nat → Int32) → (Nat → Int32) → (Nat → Int32) → (Nat → Int32) → Prop} (H : fy_ok g h la le) {l i : Nat} (hl : l < 14) (hi6 : i ≤ 6) (hJ : ∀ tb, fy_T (ft_D (ft_sl g 13) (ft_sl g l)) (h l) tb i (h l + 1) → J2 (nI (i + 1)) la le ws tb) : ∀ d j n tb, j + d = h l + 1 → d < n → fy_T (ft_D (ft_sl g 13) (ft_sl g l)) (h l) tb i j → wY_fill_15 post J2 (nI l) (nI i) lm ct n (nI j) la le ws tb := by
  have h6 := H.2.1 l
  intro d
  induction d with
  | zero =>
    intro j n tb hj hn hT
    obtain ⟨n, rfl⟩ := ft_fuel hn
    have e : j = h l + 1 := by omega
    subst e
    exact ⟨vp_in_nI hl (by decide), pk_lt (h l) (h l + 1) (fun _ => nm_r (nI_1 i) (hJ tb hT)) (fun z => absurd z (by omega)) (fy_le H hl) rfl (by omega) (by omega)⟩
  | succ d ih =>
    intro j n tb hj hn hT
    obtain ⟨n, rfl⟩ := ft_fuel hn
    have s151 : wY_fill_151 post J2 (wY_fill_15 post J2 (nI l) (nI i) lm ct n) (nI l) (nI i) (nI j) (nI (ft_D (ft_sl g 13) (ft_sl g l) i j)) lm ct la le ws tb := by
      refine ⟨by rw [fy_ix7]; exact vp_in_nI (by omega) (by decide), nm_e (nm_r (nI_1 j) (ih (j + 1) n _ (by omega) (by omega) ?_))⟩
      rw [fy_ix7, nI_clamp (by omega)]
      exact fy_Tput h6 (by omega) hT
    refine ⟨vp_in_nI hl (by decide), pk_lt (h l) j (fun z => absurd z (by omega)) (fun _ => ?_) (fy_le H hl) rfl (by omega) (by omega)⟩
    cases i with
    | zero =>
      rw [ft_D_0] at s151
      exact br_t rfl (br_t (nI_le (a := 0) (b := 0) (by decide) (by decide)) s151)
    | succ i =>
      refine br_f (nI_ne0 (by omega) (by omega)) ?_
      cases j with
      | zero =>
        rw [ft_D_n] at s151
        exact br_t rfl (br_f (nI_nle (by omega) (by omega)) (br_t (nI_le (a := 0) (b := 0) (by decide) (by decide)) s151))
      | succ j =>
        refine br_f (nI_ne0 (by omega) (by omega)) (br_f (nI_nle (by omega) (by omega)) (br_f (nI_nle (by omega) (by omega)) ⟨?_, ?_, ?_⟩))
        · rw [fy_q78]; exact vp_in_nI (by omega) (by decide)
        · rw [fy_w6]; exact vp_in_nI (by omega) (by decide)
        · have u1 := ft_D_ub (ft_sl g 13) (ft_sl g l) i j
          have u2 := ft_D_ub (ft_sl g 13) (ft_sl g l) i (j + 1)
          have u3 := ft_D_ub (ft_sl g 13) (ft_sl g l) (i + 1) j
          have un := ft_ne_le (ft_sl g 13 i) (ft_sl g l j)
          have b1 := fy_sl4 H 13 i
          have b2 := fy_sl4 H l j
          have s85 : wY_fill_85 post J2 (wY_fill_15 post J2 (nI l) (nI (i + 1)) lm ct n) (nI l) (nI (i + 1)) (nI (j + 1)) (nI (ft_ne (ft_sl g 13 i) (ft_sl g l j))) lm ct la le ws tb := by
            have e1 : tb (((nI (i + 1) - 1) * (7 : Int32) + nI (j + 1) - 1)).toNatClampNeg + nI (ft_ne (ft_sl g 13 i) (ft_sl g l j)) = nI (ft_D (ft_sl g 13) (ft_sl g l) i j + ft_ne (ft_sl g 13 i) (ft_sl g l j)) := by
              rw [fy_dia, nI_clamp (by omega), hT i j (by omega), nI_add]
            have e2 : tb (((nI (i + 1) - 1) * (7 : Int32) + nI (j + 1))).toNatClampNeg = nI (ft_D (ft_sl g 13) (ft_sl g l) i (j + 1)) := by
              rw [fy_abo, nI_clamp (by omega), hT i (j + 1) (by omega)]
            have e3 : tb ((nI (i + 1) * (7 : Int32) + nI (j + 1) - 1)).toNatClampNeg = nI (ft_D (ft_sl g 13) (ft_sl g l) (i + 1) j) := by
              rw [fy_pre, nI_clamp (by omega), hT (i + 1) j (by omega)]
            rw [ft_D_s] at s151
            exact ⟨by rw [fy_dia]; exact vp_in_nI (by omega) (by decide), nm_r e1 ⟨by rw [fy_abo]; exact vp_in_nI (by omega) (by decide), by rw [fy_pre]; exact vp_in_nI (by omega) (by decide), fy_least _ _ e2 e3 (by omega) (by omega) (nm_r (nI_1 _) (fy_least _ _ rfl rfl (by omega) (by omega) s151))⟩⟩
          have ea : la ((78 : Int32) + nI (i + 1) - 1).toNatClampNeg = nI (ft_sl g 13 i) := by
            rw [fy_q78, nI_clamp (by omega)]; exact H.2.2.1 _
          have eb : la ((6 : Int32) * nI l + nI (j + 1) - 1).toNatClampNeg = nI (ft_sl g l j) := by
            rw [fy_w6, nI_clamp (by omega)]; exact H.2.2.1 _
          refine pk_eq (ft_sl g 13 i) (ft_sl g l j) (fun e => ?_) (fun e => ?_) ea eb (by omega) (by omega)
          · have en : ft_ne (ft_sl g 13 i) (ft_sl g l j) = 0 := if_pos e
            rw [en] at s85
            exact s85
          · have en : ft_ne (ft_sl g 13 i) (ft_sl g l j) = 1 := if_neg e
            rw [en] at s85
            exact s85
theorem fy_fill_2 {post : SY → Prop} (H : fy_ok g h la le) {l : Nat} (hl : l < 14) (hpost : ∀ tb, fy_T (ft_D (ft_sl g 13) (ft_sl g l)) (h l) tb (h 13 + 1) 0 → post (lm, ct, la, le, ws, tb)) : ∀ d i n tb, i + d = h 13 + 1 → d < n → fy_T (ft_D (ft_sl g 13) (ft_sl g l)) (h l) tb i 0 → wY_fill_2 post (nI l) lm ct n (nI i) la le ws tb := by
  have h6 := H.2.1 13
  have h7 := H.2.1 l
  intro d
  induction d with
  | zero =>
    intro i n tb hi hn hT
    obtain ⟨n, rfl⟩ := ft_fuel hn
    have e : i = h 13 + 1 := by omega
    subst e
    exact pk_lt (h 13) (h 13 + 1) (fun _ => hpost tb hT) (fun z => absurd z (by omega)) (H.2.2.2 13) rfl (by omega) (by omega)
  | succ d ih =>
    intro i n tb hi hn hT
    obtain ⟨n, rfl⟩ := ft_fuel hn
    exact pk_lt (h 13) i (fun z => absurd z (by omega)) (fun _ => ⟨h l + 2, fy_fill_15 H hl (by omega) (fun tb' hT' => ih (i + 1) n tb' (by omega) (by omega) (fy_Tup hT')) (h l + 1) 0 (h l + 2) tb (by omega) (by omega) hT⟩) (H.2.2.2 13) rfl (by omega) (by omega)
theorem fy_fill {post : SY → Prop} (H : fy_ok g h la le) {x : Int32} (l : Nat) (hl : l < 14) (hx : x = nI l) {tb : Nat → Int32} (hpost : ∀ tb, fy_T (ft_D (ft_sl g 13) (ft_sl g l)) (h l) tb (h 13 + 1) 0 → post (lm, ct, la, le, ws, tb)) : wpY_fill post (lm, ct, la, le, ws, tb) x := by
  subst hx
  exact ⟨h 13 + 2, fy_fill_2 H hl hpost (h 13 + 1) 0 (h 13 + 2) tb (by omega) (by omega) (fun a b q => absurd q (by omega))⟩
theorem fy_reach_10 {post : Int32 → SY → Prop} (H : fy_ok g h la le) {l : Nat} (hl : l < 14) {tb : Nat → Int32} (hT : fy_T (ft_D (ft_sl g 13) (ft_sl g l)) (h l) tb (h 13 + 1) 0) (hpost : post (nI (ft_re (ft_sl g) h (ft_sl g 13) (h 13) l)) (lm, ct, la, le, ws, tb)) : ∀ d j n, j + d = h l + 1 → d < n → wY_reach_10 post (nI l) lm ct la le ws tb n (nI (ft_bs (ft_D (ft_sl g 13) (ft_sl g l) (h 13)) j)) (nI j) := by
  have h6 := H.2.1 13
  have h7 := H.2.1 l
  intro d
  induction d with
  | zero =>
    intro j n hj hn
    obtain ⟨n, rfl⟩ := ft_fuel hn
    have e : j = h l + 1 := by omega
    subst e
    refine ⟨vp_in_nI hl (by decide), pk_lt (h l) (h l + 1) (fun _ => ?_) (fun z => absurd z (by omega)) (fy_le H hl) rfl (by omega) (by omega)⟩
    rw [ft_reach _ h6]
    exact hpost
  | succ d ih =>
    intro j n hj hn
    obtain ⟨n, rfl⟩ := ft_fuel hn
    have u1 := ft_D_ub (ft_sl g 13) (ft_sl g l) (h 13) j
    have u2 := ft_bs_9 (ft_D (ft_sl g 13) (ft_sl g l) (h 13)) j
    have ei : le 13 * (7 : Int32) + nI j = nI (h 13 * 7 + j) := by rw [H.2.2.2 13, fy_ix7]
    have e : tb (le 13 * (7 : Int32) + nI j).toNatClampNeg = nI (ft_D (ft_sl g 13) (ft_sl g l) (h 13) j) := by
      rw [ei, nI_clamp (by omega)]; exact hT _ _ (by omega)
    exact ⟨vp_in_nI hl (by decide), pk_lt (h l) j (fun z => absurd z (by omega)) (fun _ => ⟨by rw [ei]; exact vp_in_nI (by omega) (by decide), fy_least _ _ rfl e (by omega) (by omega) (nm_r (nI_1 j) (ih (j + 1) n (by omega) (by omega)))⟩) (fy_le H hl) rfl (by omega) (by omega)⟩
theorem fy_reach {post : Int32 → SY → Prop} (H : fy_ok g h la le) {l : Nat} (hl : l < 14) {tb : Nat → Int32} (hpost : ∀ tb, post (nI (ft_re (ft_sl g) h (ft_sl g 13) (h 13) l)) (lm, ct, la, le, ws, tb)) : wpY_reach post (lm, ct, la, le, ws, tb) (nI l) :=
  fy_fill H l hl rfl (fun tb hT => ⟨h l + 2, fy_reach_10 H hl hT (hpost tb) (h l + 1) 0 (h l + 2) (by omega) (by omega)⟩)
end
