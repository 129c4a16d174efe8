/-! meets, ok, the masks -/
def ml_Pr (ic : Nat) (ra rb : Nat → Int32) : Prop := ic ≤ 12 ∧ (∀ p, p < ic → ∃ a, a < 4 ∧ ra p = nI a) ∧ (∀ p, p < ic → ∃ b, b < 4 ∧ rb p = nI b)
def ml_Te (te eo ex : Nat → Int32) (t : Nat) : Prop := (te t = 0 ∧ eo t = 0) ∨ (te t = 1 ∧ eo t = ex t)
section
variable {ic tc mc : Nat} {op ra rb cc tx ty te eo ex pl mo mk co ch : Nat → Int32} {re ro rl ye yl : Int32} {rg km yr : Nat → Int32}
theorem mx_meets (post : Int32 → SX → Prop) (mu : Int32) (hmu : mu = -1 ∨ ∃ m : Nat, m < 24 ∧ mu = nI m) (hP : ml_Pr ic ra rb) (t : Nat) (ht : t < 6)
    (H : ∀ (re ro rl : Int32) (rg : Nat → Int32), post (ml_ok ic op ra rb cc pl mo mk tx ty te eo mu t) (nI ic, nI tc, nI mc, re, ro, rl, op, ra, rb, cc, tx, ty, te, eo, pl, mo, mk, rg, km)) : wpX_meets post (nI ic, nI tc, nI mc, re, ro, rl, op, ra, rb, cc, tx, ty, te, eo, pl, mo, mk, rg, km) mu (nI t) := by
  have it : vp_in (nI t) 6 := vp_in_nI ht (by decide)
  have ct : (nI t).toNatClampNeg = t := nI_clamp (by omega)
  refine ⟨it, it, ?_⟩
  rw [ct]
  refine mx_run _ mu hmu hP.1 hP.2.1 hP.2.2 (tx t) (ty t) fun w => ?_
  refine ⟨it, br_c (fun z => ⟨it, br_c (fun z2 => ?_) (fun z2 => ?_)⟩) (fun z => ?_)⟩
  · have G := H (ml_E ic op ra rb cc pl mo mk mu (tx t) (ty t)) (ml_O ic op ra rb cc pl mo mk mu (tx t) (ty t)) (ml_L ic op ra rb cc pl mo mk mu (tx t) (ty t)) w
    unfold ml_ok at G
    rw [if_pos z, if_pos z2] at G
    exact G
  · have G := H (ml_E ic op ra rb cc pl mo mk mu (tx t) (ty t)) (ml_O ic op ra rb cc pl mo mk mu (tx t) (ty t)) (ml_L ic op ra rb cc pl mo mk mu (tx t) (ty t)) w
    unfold ml_ok at G
    rw [if_pos z, if_neg z2] at G
    exact G
  · have G := H (ml_E ic op ra rb cc pl mo mk mu (tx t) (ty t)) (ml_O ic op ra rb cc pl mo mk mu (tx t) (ty t)) (ml_L ic op ra rb cc pl mo mk mu (tx t) (ty t)) w
    unfold ml_ok at G
    rw [if_neg z] at G
    exact G
theorem my_ok (post : Int32 → SY → Prop) (mu : Int32) (hmu : mu = -1 ∨ ∃ m : Nat, m < 24 ∧ mu = nI m ∧ ml_Mu ic op cc pl mo mk co ch m) (hP : ml_Pr ic ra rb) (t : Nat) (ht : t < 6) (hT : ml_Te te eo ex t)
    (H : ∀ (ye yl : Int32) (yr : Nat → Int32), post (ml_ok ic op ra rb cc pl mo mk tx ty te eo mu t) (nI ic, nI tc, nI mc, ye, yl, op, ra, rb, cc, tx, ty, te, ex, pl, co, ch, yr)) : wpY_ok post (nI ic, nI tc, nI mc, ye, yl, op, ra, rb, cc, tx, ty, te, ex, pl, co, ch, yr) mu (nI t) := by
  have it : vp_in (nI t) 6 := vp_in_nI ht (by decide)
  have ct : (nI t).toNatClampNeg = t := nI_clamp (by omega)
  refine ⟨it, it, ?_⟩
  rw [ct]
  refine my_run _ mu hmu hP.1 hP.2.1 hP.2.2 (tx t) (ty t) fun w hw => ?_
  have G := H (ml_E ic op ra rb cc pl mo mk mu (tx t) (ty t)) (ml_L ic op ra rb cc pl mo mk mu (tx t) (ty t)) w
  unfold ml_ok at G
  refine ⟨it, br_c (fun z => ?_) (fun z => ?_)⟩
  · rw [if_pos z] at G
    rcases ml_E01 ic op ra rb cc pl mo mk mu (tx t) (ty t) with ⟨e0, o0⟩ | e1
    · have hte : te t = 0 := by rw [← z, e0]
      have heo : eo t = 0 := by
        rcases hT with h | h
        · exact h.2
        · rw [hte] at h; exact absurd h.1 (by decide)
      rw [if_pos (by rw [o0, heo])] at G
      exact br_t e0 G
    · have hte : te t = 1 := by rw [← z, e1]
      have heo : eo t = ex t := by
        rcases hT with h | h
        · rw [hte] at h; exact absurd h.1 (by decide)
        · exact h.2
      refine br_f (by rw [e1]; decide) ⟨it, br_c (fun z2 => ?_) (fun z2 => ?_)⟩
      · rw [if_pos (by rw [heo, ← hw e1]; exact z2)] at G
        exact G
      · rw [if_neg (by rw [heo, ← hw e1]; exact z2)] at G
        exact G
  · rw [if_neg z] at G
    exact G
theorem mx_maskL (post : Int32 → SX → Prop) (mu : Int32) (hmu : mu = -1 ∨ ∃ m : Nat, m < 24 ∧ mu = nI m) (hP : ml_Pr ic ra rb) (htc : tc ≤ 6)
    (H : ∀ (re ro rl : Int32) (rg : Nat → Int32), post (ml_mask (ml_ok ic op ra rb cc pl mo mk tx ty te eo mu) tc) (nI ic, nI tc, nI mc, re, ro, rl, op, ra, rb, cc, tx, ty, te, eo, pl, mo, mk, rg, km)) :
    ∀ (d n t : Nat) (re ro rl : Int32) (rg : Nat → Int32), t + d = tc → d < n → wX_killerMask_4 post mu n (ml_mask (ml_ok ic op ra rb cc pl mo mk tx ty te eo mu) t) (nI t) (nI ic) (nI tc) (nI mc) re ro rl op ra rb cc tx ty te eo pl mo mk rg km := by
  intro d
  induction d with
  | zero =>
    intro n t re ro rl rg ht hn
    obtain ⟨n, rfl⟩ : ∃ k, n = k + 1 := ⟨n - 1, by omega⟩
    have e : t = tc := by omega
    subst e
    exact br_t (nI_le (Nat.le_refl _) (by omega)) (H re ro rl rg)
  | succ d ih =>
    intro n t re ro rl rg ht hn
    obtain ⟨n, rfl⟩ : ∃ k, n = k + 1 := ⟨n - 1, by omega⟩
    refine br_f (nI_ge (by omega) (by omega)) ?_
    refine mx_meets _ mu hmu hP t (by omega) fun re ro rl rg => ?_
    have e : ml_mask (ml_ok ic op ra rb cc pl mo mk tx ty te eo mu) (t + 1) = if ml_ok ic op ra rb cc pl mo mk tx ty te eo mu t = 0 then ml_mask (ml_ok ic op ra rb cc pl mo mk tx ty te eo mu) t ||| ((1 : Int32) <<< (nI t &&& 31)) else ml_mask (ml_ok ic op ra rb cc pl mo mk tx ty te eo mu) t := rfl
    have G := ih n (t + 1) re ro rl rg (by omega) (by omega)
    refine br_c (fun z => nm_e (nm_r (nI_1 t) ?_)) (fun z => nm_r (nI_1 t) ?_)
    · rw [e, if_pos z] at G
      exact G
    · rw [e, if_neg z] at G
      exact G
theorem mx_mask (post : Int32 → SX → Prop) (mu : Int32) (hmu : mu = -1 ∨ ∃ m : Nat, m < 24 ∧ mu = nI m) (hP : ml_Pr ic ra rb) (htc : tc ≤ 6)
    (H : ∀ (re ro rl : Int32) (rg : Nat → Int32), post (ml_mask (ml_ok ic op ra rb cc pl mo mk tx ty te eo mu) tc) (nI ic, nI tc, nI mc, re, ro, rl, op, ra, rb, cc, tx, ty, te, eo, pl, mo, mk, rg, km)) : wpX_killerMask post (nI ic, nI tc, nI mc, re, ro, rl, op, ra, rb, cc, tx, ty, te, eo, pl, mo, mk, rg, km) mu :=
  ⟨tc + 1, mx_maskL post mu hmu hP htc H tc (tc + 1) 0 re ro rl rg (by omega) (by omega)⟩
theorem mx_kil (post : Int32 → SX → Prop) (m : Nat) (hm : m < 24) (hP : ml_Pr ic ra rb) (htc : tc ≤ 6)
    (H : ∀ (re ro rl : Int32) (rg : Nat → Int32), post (ml_M ic op ra rb cc pl mo mk tx ty te eo tc m) (nI ic, nI tc, nI mc, re, ro, rl, op, ra, rb, cc, tx, ty, te, eo, pl, mo, mk, rg, km)) : wpX_killerMask post (nI ic, nI tc, nI mc, re, ro, rl, op, ra, rb, cc, tx, ty, te, eo, pl, mo, mk, rg, km) (nI m) :=
  mx_mask post (nI m) (Or.inr ⟨m, hm, rfl⟩) hP htc H
theorem my_maskL (post : Int32 → SY → Prop) (mu : Int32) (hmu : mu = -1 ∨ ∃ m : Nat, m < 24 ∧ mu = nI m ∧ ml_Mu ic op cc pl mo mk co ch m) (hP : ml_Pr ic ra rb) (htc : tc ≤ 6) (hT : ∀ t, t < tc → ml_Te te eo ex t)
    (H : ∀ (ye yl : Int32) (yr : Nat → Int32), post (ml_mask (ml_ok ic op ra rb cc pl mo mk tx ty te eo mu) tc) (nI ic, nI tc, nI mc, ye, yl, op, ra, rb, cc, tx, ty, te, ex, pl, co, ch, yr)) :
    ∀ (d n t : Nat) (ye yl : Int32) (yr : Nat → Int32), t + d = tc → d < n → wY_killers_15 post mu n (ml_mask (ml_ok ic op ra rb cc pl mo mk tx ty te eo mu) t) (nI t) (nI ic) (nI tc) (nI mc) ye yl op ra rb cc tx ty te ex pl co ch yr := by
  intro d
  induction d with
  | zero =>
    intro n t ye yl yr ht hn
    obtain ⟨n, rfl⟩ : ∃ k, n = k + 1 := ⟨n - 1, by omega⟩
    have e : t = tc := by omega
    subst e
    exact br_t (nI_le (Nat.le_refl _) (by omega)) (H ye yl yr)
  | succ d ih =>
    intro n t ye yl yr ht hn
    obtain ⟨n, rfl⟩ : ∃ k, n = k + 1 := ⟨n - 1, by omega⟩
    refine br_f (nI_ge (by omega) (by omega)) ?_
    refine my_ok _ mu hmu hP t (by omega) (hT t (by omega)) fun ye yl yr => ?_
    have e : ml_mask (ml_ok ic op ra rb cc pl mo mk tx ty te eo mu) (t + 1) = if ml_ok ic op ra rb cc pl mo mk tx ty te eo mu t = 0 then ml_mask (ml_ok ic op ra rb cc pl mo mk tx ty te eo mu) t ||| ((1 : Int32) <<< (nI t &&& 31)) else ml_mask (ml_ok ic op ra rb cc pl mo mk tx ty te eo mu) t := rfl
    have G := ih n (t + 1) ye yl yr (by omega) (by omega)
    refine br_c (fun z => nm_e (nm_r (nI_1 t) ?_)) (fun z => nm_r (nI_1 t) ?_)
    · rw [e, if_pos z] at G
      exact G
    · rw [e, if_neg z] at G
      exact G
theorem my_kil (post : Int32 → SY → Prop) (m : Nat) (hm : m < mc) (hmc : mc ≤ 24) (hM : ml_Mu ic op cc pl mo mk co ch m) (hP : ml_Pr ic ra rb) (htc : tc ≤ 6) (hT : ∀ t, t < tc → ml_Te te eo ex t)
    (H : ∀ (ye yl : Int32) (yr : Nat → Int32), post (ml_M ic op ra rb cc pl mo mk tx ty te eo tc m) (nI ic, nI tc, nI mc, ye, yl, op, ra, rb, cc, tx, ty, te, ex, pl, co, ch, yr)) : wpY_killers post (nI ic, nI tc, nI mc, ye, yl, op, ra, rb, cc, tx, ty, te, ex, pl, co, ch, yr) (nI m) := by
  refine br_f (nI_pos (by omega)) (br_t (nI_lt hm (by omega)) (br_t rfl ?_))
  exact ⟨tc + 1, my_maskL post (nI m) (Or.inr ⟨m, by omega, rfl, hM⟩) hP htc hT H tc (tc + 1) 0 ye yl yr (by omega) (by omega)⟩
/-! counting over the mutants -/
end
def ml_cn (P : Nat → Int32) : Nat → Int32
  | 0 => 0
  | m + 1 => if P m = 0 then ml_cn P m else ml_cn P m + 1
section
variable {ic tc mc : Nat} {op ra rb cc tx ty te eo ex pl mo mk co ch : Nat → Int32} {re ro rl ye yl : Int32} {rg km yr : Nat → Int32}
theorem mx_killedL (post : Int32 → SX → Prop) (set : Int32) (hP : ml_Pr ic ra rb) (htc : tc ≤ 6) (hmc : mc ≤ 24)
    (H : ∀ (re ro rl : Int32) (rg : Nat → Int32), post (ml_cn (fun m => ml_M ic op ra rb cc pl mo mk tx ty te eo tc m &&& set) mc) (nI ic, nI tc, nI mc, re, ro, rl, op, ra, rb, cc, tx, ty, te, eo, pl, mo, mk, rg, km)) :
    ∀ (d n m : Nat) (re ro rl : Int32) (rg : Nat → Int32), m + d = mc → d < n → wX_killed_4 post set n (ml_cn (fun m => ml_M ic op ra rb cc pl mo mk tx ty te eo tc m &&& set) m) (nI m) (nI ic) (nI tc) (nI mc) re ro rl op ra rb cc tx ty te eo pl mo mk rg km := by
  intro d
  induction d with
  | zero =>
    intro n m re ro rl rg ht hn
    obtain ⟨n, rfl⟩ : ∃ k, n = k + 1 := ⟨n - 1, by omega⟩
    have e : m = mc := by omega
    subst e
    exact br_t (nI_le (Nat.le_refl _) (by omega)) (H re ro rl rg)
  | succ d ih =>
    intro n m re ro rl rg ht hn
    obtain ⟨n, rfl⟩ : ∃ k, n = k + 1 := ⟨n - 1, by omega⟩
    refine br_f (nI_ge (by omega) (by omega)) ?_
    refine mx_kil _ m (by omega) hP htc fun re ro rl rg => ?_
    have e : ml_cn (fun m => ml_M ic op ra rb cc pl mo mk tx ty te eo tc m &&& set) (m + 1) = if (ml_M ic op ra rb cc pl mo mk tx ty te eo tc m &&& set) = 0 then ml_cn (fun m => ml_M ic op ra rb cc pl mo mk tx ty te eo tc m &&& set) m else ml_cn (fun m => ml_M ic op ra rb cc pl mo mk tx ty te eo tc m &&& set) m + 1 := rfl
    have G := ih n (m + 1) re ro rl rg (by omega) (by omega)
    refine br_c (fun z => nm_r (nI_1 m) ?_) (fun z => nm_e (nm_r (nI_1 m) ?_))
    · rw [e, if_pos z] at G
      exact G
    · rw [e, if_neg z] at G
      exact G
theorem my_killedL (post : Int32 → SY → Prop) (set : Int32) (hP : ml_Pr ic ra rb) (htc : tc ≤ 6) (hmc : mc ≤ 24) (hT : ∀ t, t < tc → ml_Te te eo ex t) (hM : ∀ m, m < mc → ml_Mu ic op cc pl mo mk co ch m)
    (H : ∀ (ye yl : Int32) (yr : Nat → Int32), post (ml_cn (fun m => ml_M ic op ra rb cc pl mo mk tx ty te eo tc m &&& set) mc) (nI ic, nI tc, nI mc, ye, yl, op, ra, rb, cc, tx, ty, te, ex, pl, co, ch, yr)) :
    ∀ (d n m : Nat) (ye yl : Int32) (yr : Nat → Int32), m + d = mc → d < n → wY_killed_4 post set n (ml_cn (fun m => ml_M ic op ra rb cc pl mo mk tx ty te eo tc m &&& set) m) (nI m) (nI ic) (nI tc) (nI mc) ye yl op ra rb cc tx ty te ex pl co ch yr := by
  intro d
  induction d with
  | zero =>
    intro n m ye yl yr ht hn
    obtain ⟨n, rfl⟩ : ∃ k, n = k + 1 := ⟨n - 1, by omega⟩
    have e : m = mc := by omega
    subst e
    exact br_t (nI_le (Nat.le_refl _) (by omega)) (H ye yl yr)
  | succ d ih =>
    intro n m ye yl yr ht hn
    obtain ⟨n, rfl⟩ : ∃ k, n = k + 1 := ⟨n - 1, by omega⟩
    refine br_f (nI_ge (by omega) (by omega)) ?_
    refine my_kil _ m (by omega) hmc (hM m (by omega)) hP htc hT fun ye yl yr => ?_
    have e : ml_cn (fun m => ml_M ic op ra rb cc pl mo mk tx ty te eo tc m &&& set) (m + 1) = if (ml_M ic op ra rb cc pl mo mk tx ty te eo tc m &&& set) = 0 then ml_cn (fun m => ml_M ic op ra rb cc pl mo mk tx ty te eo tc m &&& set) m else ml_cn (fun m => ml_M ic op ra rb cc pl mo mk tx ty te eo tc m &&& set) m + 1 := rfl
    have G := ih n (m + 1) ye yl yr (by omega) (by omega)
    refine br_c (fun z => nm_r (nI_1 m) ?_) (fun z => nm_e (nm_r (nI_1 m) ?_))
    · rw [e, if_pos z] at G
      exact G
    · rw [e, if_neg z] at G
      exact G
end
