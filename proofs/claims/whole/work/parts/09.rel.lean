/-- one dictionary on both sides: g the letters, h the lengths of the fourteen lists; list 12 is the draft, 13 the query -/
def i_Rel (k : Nat) (u : SX) (v : SY) : Prop := ∃ (K c : Nat) (g h : Nat → Nat) (cs ws rc ro la le tb : Nat → Int32), u = (nI K, nI (ft_cd (ft_sl g 12) (h 12)), nI (ft_cd (ft_sl g 13) (h 13)), nI c, cs, ws, rc, ro) ∧ v = (nI K, nI c, la, le, ws, tb) ∧ K ≤ 3 ∧ c ≤ 12 ∧ fy_ok g h la le ∧ ∀ l, l < 12 → cs l = nI (ft_cd (ft_sl g l) (h l))
theorem i_up {k : Nat} {u : SX} {v : SY} (h : i_Rel k u v) : i_Rel (k + 2) u v := h
theorem fr_mk {k K c : Nat} {g h : Nat → Nat} {cs ws rc ro la le tb : Nat → Int32} {dc qc ct : Int32} (hd : dc = nI (ft_cd (ft_sl g 12) (h 12))) (hq : qc = nI (ft_cd (ft_sl g 13) (h 13))) (ht : ct = nI c) (hK : K ≤ 3) (hc : c ≤ 12) (H : fy_ok g h la le) (hcs : ∀ l, l < 12 → cs l = nI (ft_cd (ft_sl g l) (h l))) : i_Rel k (nI K, dc, qc, ct, cs, ws, rc, ro) (nI K, ct, la, le, ws, tb) := by
  subst hd hq ht
  exact ⟨K, c, g, h, cs, ws, rc, ro, la, le, tb, rfl, rfl, hK, hc, H, hcs⟩
theorem fr_ok {g h : Nat → Nat} {la le cs : Nat → Int32} {c : Nat} (H : fy_ok g h la le) (hc : c ≤ 12) (hcs : ∀ l, l < 12 → cs l = nI (ft_cd (ft_sl g l) (h l))) : fx_ok (ft_sl g) h (ft_sl g 13) (h 13) c cs := ⟨fy_sl4 H 13, H.2.1 13, fy_sl4 H, H.2.1, hc, hcs⟩
theorem fr_n4 {w : Nat} (h : w < 2 ^ 31) : ¬ nI w = -4 := fun e => by
  have := nI_pos h
  rw [e] at this
  exact this (by decide)
theorem fr_u {p : Nat → Prop} {w v : Nat} (hw : p w) (mw : ∀ i, i < w → ¬ p i) (hv : p v) (mv : ∀ i, i < v → ¬ p i) : w = v := by
  by_cases a : w < v
  · exact absurd hw (mv w a)
  · by_cases b : v < w
    · exact absurd hv (mw v b)
    · omega
/-! the draft emptied, a letter appended, a list copied -/
theorem ft_up_s (g : Nat → Nat) (k x : Nat) : ft_up g k x k = x := if_pos rfl
theorem ft_up_n (g : Nat → Nat) {k j : Nat} (x : Nat) (h : j ≠ k) : ft_up g k x j = g j := if_neg h
theorem fr_le {h : Nat → Nat} {le : Nat → Int32} (H : ∀ j, le j = nI (h j)) {l x : Nat} {y : Int32} (hy : y = nI x) : ∀ j, upd le l y j = nI (ft_up h l x j) := fun j => by
  by_cases q : j = l
  · subst q; rw [pk_us, ft_up_s, hy]
  · rw [pk_un q, ft_up_n _ _ q]; exact H j
theorem fr_h6 {h : Nat → Nat} (H : ∀ j, h j ≤ 6) {l x : Nat} (hx : x ≤ 6) : ∀ j, ft_up h l x j ≤ 6 := fun j => by
  by_cases q : j = l
  · subst q; rw [ft_up_s]; exact hx
  · rw [ft_up_n _ _ q]; exact H j
theorem fr_app_s (g h : Nat → Nat) (l k : Nat) : ft_cd (ft_sl (ft_up g (6 * l + h l) k) l) (ft_up h l (h l + 1) l) = 5 * ft_cd (ft_sl g l) (h l) + (k + 1) := by
  rw [ft_up_s, ft_cd_s]
  have e1 : ft_sl (ft_up g (6 * l + h l) k) l (h l) = k := ft_up_s _ _ _
  have e2 : ft_cd (ft_sl (ft_up g (6 * l + h l) k) l) (h l) = ft_cd (ft_sl g l) (h l) := ft_cd_cg (fun i hi => ft_up_n _ _ (by omega))
  rw [e1, e2]
theorem fr_app_n (g h : Nat → Nat) {l a : Nat} (k : Nat) (hh : ∀ j, h j ≤ 6) (hl : h l < 6) (ha : a ≠ l) : ft_cd (ft_sl (ft_up g (6 * l + h l) k) a) (ft_up h l (h l + 1) a) = ft_cd (ft_sl g a) (h a) := by
  rw [ft_up_n _ _ ha]
  have := hh a
  exact ft_cd_cg (fun i hi => ft_up_n _ _ (by omega))
theorem fr_app_ok {g h : Nat → Nat} {la le la' le' : Nat → Int32} (H : fy_ok g h la le) {l k : Nat} (hl : h l < 6) (hk : k < 4) (h1 : ∀ j, la' j = nI (ft_up g (6 * l + h l) k j)) (h2 : ∀ j, le' j = nI (ft_up h l (h l + 1) j)) : fy_ok (ft_up g (6 * l + h l) k) (ft_up h l (h l + 1)) la' le' := by
  refine ⟨fun j => ?_, fr_h6 H.2.1 (by omega), h1, h2⟩
  by_cases q : j = 6 * l + h l
  · subst q; rw [ft_up_s]; exact hk
  · rw [ft_up_n _ _ q]; exact H.1 j
theorem fr_code {f : Nat → Nat} {m k : Nat} {y : Int32} (hy : y = nI k) : nI (ft_cd f m) * 5 + y + 1 = nI (5 * ft_cd f m + (k + 1)) := by
  have e5 : nI (ft_cd f m) * 5 = nI (ft_cd f m * 5) := pk_mul _ 5
  rw [hy, e5, nI_add, nI_1]
  congr 1
  omega
theorem fr_cp_b (g h : Nat → Nat) (a b : Nat) : ft_cd (ft_sl (ft_cp g a b (h a)) b) (h a) = ft_cd (ft_sl g a) (h a) := by
  refine ft_cd_cg (fun i hi => ?_)
  unfold ft_sl ft_cp
  rw [if_pos (by omega), show 6 * b + i - 6 * b = i by omega]
theorem fr_cp_n (g h : Nat → Nat) {a b l : Nat} (hh : ∀ j, h j ≤ 6) (hl : l ≠ b) {n : Nat} (hn : n ≤ 6) : ft_cd (ft_sl (ft_cp g a b (h a)) l) n = ft_cd (ft_sl g l) n := by
  have := hh a
  refine ft_cd_cg (fun i hi => ?_)
  unfold ft_sl ft_cp
  rw [if_neg (by omega)]
theorem fr_cp_4 {g : Nat → Nat} (hg : ∀ j, g j < 4) (a b n : Nat) : ∀ j, ft_cp g a b n j < 4 := fun j => by
  unfold ft_cp
  split
  · exact hg _
  · exact hg _
theorem fx_lengthWith {post : Int32 → Prop} {f : Nat → Nat} (hf : ∀ i, f i < 4) {m : Nat} (hm : m ≤ 6) {y : Int32} (h1 : y < 0 → post (-1)) (h2 : ¬ y < 0 → ¬ y ≤ 3 → post (-1)) (h3 : ¬ y < 0 → y ≤ 3 → m = 6 → post (-2)) (h4 : ¬ y < 0 → y ≤ 3 → m < 6 → post (nI (m + 1))) : wpX_lengthWith post (nI (ft_cd f m)) y := by
  refine br_c h1 (fun n0 => br_c (fun n3 => fx_lengthOf hf hm (pk_lt m 6 (fun q => ?_) (fun q => h3 n0 n3 (by omega)) rfl rfl (by omega) (by omega))) (h2 n0))
  rw [nI_1]
  exact h4 n0 n3 q
theorem fx_0 {f : Nat → Nat} (hf : ∀ i, f i < 4) {m : Nat} (hm : m ≤ 6) {A B : Prop} (a : m = 0 → A) (b : 0 < m → B) : (nI (ft_cd f m) = 0 → A) ∧ (¬ nI (ft_cd f m) = 0 → B) := by
  cases m with
  | zero => exact br_t rfl (a rfl)
  | succ m => exact br_f (fx_n0 hf (by omega)) (b (by omega))
theorem fr_e0 (g h : Nat → Nat) (l : Nat) : (0 : Int32) = nI (ft_cd (ft_sl g l) (ft_up h l 0 l)) := by
  rw [ft_up_s]; rfl
