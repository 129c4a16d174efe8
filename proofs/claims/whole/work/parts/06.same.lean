/-! givesTheSame, alike, same -/
def ml_al (f : Nat → Bool) : Nat → Bool
  | 0 => true
  | n + 1 => ml_al f n && f n
def ml_fl (b : Bool) : Int32 := if b = true then 1 else 0
theorem ml_al_f {f : Nat → Bool} {j : Nat} (h : f j = false) : ∀ n, j < n → ml_al f n = false := by
  intro n
  induction n with
  | zero => intro h; exact absurd h (by omega)
  | succ n ih =>
    intro hj
    show (ml_al f n && f n) = false
    by_cases e : j = n
    · subst e; rw [h, Bool.and_false]
    · rw [ih (by omega), Bool.false_and]
theorem ml_al_s {f : Nat → Bool} {n : Nat} (h : ml_al f n = true) (hf : f n = true) : ml_al f (n + 1) = true := by
  show (ml_al f n && f n) = true
  rw [h, hf]; rfl
theorem ml_al_i {f : Nat → Bool} : ∀ {n : Nat}, ml_al f n = true ↔ ∀ j, j < n → f j = true := by
  intro n
  constructor
  · intro h j hj
    cases e : f j with
    | true => rfl
    | false => rw [ml_al_f e n hj] at h; exact absurd h (by decide)
  · induction n with
    | zero => intro _; rfl
    | succ n ih => intro h; exact ml_al_s (ih fun j hj => h j (by omega)) (h n (by omega))
def ml_sf (ic : Nat) (op ra rb cc pl mo mk tx ty : Nat → Int32) (mu : Int32) (t : Nat) : Bool :=
  decide (ml_E ic op ra rb cc pl mo mk mu (tx t) (ty t) = ml_E ic op ra rb cc pl mo mk (-1) (tx t) (ty t) ∧ ml_O ic op ra rb cc pl mo mk mu (tx t) (ty t) = ml_O ic op ra rb cc pl mo mk (-1) (tx t) (ty t))
def ml_S (ic : Nat) (op ra rb cc pl mo mk tx ty : Nat → Int32) (tc : Nat) (m : Nat) : Int32 := ml_fl (ml_al (ml_sf ic op ra rb cc pl mo mk tx ty (nI m)) tc)
section
variable {ic tc mc : Nat} {op ra rb cc tx ty te eo ex pl mo mk co ch : Nat → Int32} {re ro rl ye yl : Int32} {rg km yr : Nat → Int32}
theorem mx_givesL (post : Int32 → SX → Prop) (m : Nat) (hm : m < 24) (hP : ml_Pr ic ra rb) (htc : tc ≤ 6)
    (H : ∀ (re ro rl : Int32) (rg : Nat → Int32), post (ml_S ic op ra rb cc pl mo mk tx ty tc m) (nI ic, nI tc, nI mc, re, ro, rl, op, ra, rb, cc, tx, ty, te, eo, pl, mo, mk, rg, km)) :
    ∀ (d n t : Nat) (re ro rl : Int32) (rg : Nat → Int32), t + d = tc → d < n → ml_al (ml_sf ic op ra rb cc pl mo mk tx ty (nI m)) t = true → wX_givesTheSame_2 post (nI m) n (nI t) (nI ic) (nI tc) (nI mc) re ro rl op ra rb cc tx ty te eo pl mo mk rg km := by
  intro d
  induction d with
  | zero =>
    intro n t re ro rl rg ht hn ha
    obtain ⟨n, rfl⟩ : ∃ k, n = k + 1 := ⟨n - 1, by omega⟩
    have e : t = tc := by omega
    subst e
    have G := H re ro rl rg
    unfold ml_S ml_fl at G
    rw [if_pos ha] at G
    exact br_t (nI_le (Nat.le_refl _) (by omega)) G
  | succ d ih =>
    intro n t re ro rl rg ht hn ha
    obtain ⟨n, rfl⟩ : ∃ k, n = k + 1 := ⟨n - 1, by omega⟩
    have it : vp_in (nI t) 6 := vp_in_nI (by omega) (by decide)
    have ct : (nI t).toNatClampNeg = t := nI_clamp (by omega)
    refine br_f (nI_ge (by omega) (by omega)) ⟨it, it, ?_⟩
    rw [ct]
    refine mx_run _ (-1) (Or.inl rfl) hP.1 hP.2.1 hP.2.2 (tx t) (ty t) fun w1 => ?_
    refine ⟨it, it, ?_⟩
    refine mx_run _ (nI m) (Or.inr ⟨m, hm, rfl⟩) hP.1 hP.2.1 hP.2.2 (tx t) (ty t) fun w => ?_
    have N : ml_sf ic op ra rb cc pl mo mk tx ty (nI m) t = false → post 0 (nI ic, nI tc, nI mc, ml_E ic op ra rb cc pl mo mk (nI m) (tx t) (ty t), ml_O ic op ra rb cc pl mo mk (nI m) (tx t) (ty t), ml_L ic op ra rb cc pl mo mk (nI m) (tx t) (ty t), op, ra, rb, cc, tx, ty, te, eo, pl, mo, mk, w, km) := by
      intro hf
      have G := H (ml_E ic op ra rb cc pl mo mk (nI m) (tx t) (ty t)) (ml_O ic op ra rb cc pl mo mk (nI m) (tx t) (ty t)) (ml_L ic op ra rb cc pl mo mk (nI m) (tx t) (ty t)) w
      unfold ml_S ml_fl at G
      rw [ml_al_f hf tc (by omega), if_neg (by decide)] at G
      exact G
    refine br_c (fun z => br_c (fun z2 => nm_r (nI_1 t) ?_) (fun z2 => ?_)) (fun z => ?_)
    · exact ih n (t + 1) _ _ _ w (by omega) (by omega) (ml_al_s ha (decide_eq_true ⟨z, z2⟩))
    · exact N (decide_eq_false fun q => z2 q.2)
    · exact N (decide_eq_false fun q => z q.1)
theorem my_alikeL (post : Int32 → SY → Prop) (m : Nat) (hm : m < 24) (hM : ml_Mu ic op cc pl mo mk co ch m) (hP : ml_Pr ic ra rb) (htc : tc ≤ 6)
    (H : ∀ (ye yl : Int32) (yr : Nat → Int32), post (ml_S ic op ra rb cc pl mo mk tx ty tc m) (nI ic, nI tc, nI mc, ye, yl, op, ra, rb, cc, tx, ty, te, ex, pl, co, ch, yr)) :
    ∀ (d n t : Nat) (ye yl : Int32) (yr : Nat → Int32), t + d = tc → d < n → ml_al (ml_sf ic op ra rb cc pl mo mk tx ty (nI m)) t = true → wY_alike_2 post (nI m) n (nI t) (nI ic) (nI tc) (nI mc) ye yl op ra rb cc tx ty te ex pl co ch yr := by
  intro d
  induction d with
  | zero =>
    intro n t ye yl yr ht hn ha
    obtain ⟨n, rfl⟩ : ∃ k, n = k + 1 := ⟨n - 1, by omega⟩
    have e : t = tc := by omega
    subst e
    have G := H ye yl yr
    unfold ml_S ml_fl at G
    rw [if_pos ha] at G
    exact br_t (nI_le (Nat.le_refl _) (by omega)) G
  | succ d ih =>
    intro n t ye yl yr ht hn ha
    obtain ⟨n, rfl⟩ : ∃ k, n = k + 1 := ⟨n - 1, by omega⟩
    have it : vp_in (nI t) 6 := vp_in_nI (by omega) (by decide)
    have ct : (nI t).toNatClampNeg = t := nI_clamp (by omega)
    refine br_f (nI_ge (by omega) (by omega)) ⟨it, it, ?_⟩
    rw [ct]
    refine my_run (mo := mo) (mk := mk) _ (-1) (Or.inl rfl) hP.1 hP.2.1 hP.2.2 (tx t) (ty t) fun w1 hw1 => ?_
    intro x4 e4
    refine ⟨it, it, ?_⟩
    refine my_run (mo := mo) (mk := mk) _ (nI m) (Or.inr ⟨m, hm, rfl, hM⟩) hP.1 hP.2.1 hP.2.2 (tx t) (ty t) fun w hw => ?_
    have N : ml_sf ic op ra rb cc pl mo mk tx ty (nI m) t = false → post 0 (nI ic, nI tc, nI mc, ml_E ic op ra rb cc pl mo mk (nI m) (tx t) (ty t), ml_L ic op ra rb cc pl mo mk (nI m) (tx t) (ty t), op, ra, rb, cc, tx, ty, te, ex, pl, co, ch, w) := by
      intro hf
      have G := H (ml_E ic op ra rb cc pl mo mk (nI m) (tx t) (ty t)) (ml_L ic op ra rb cc pl mo mk (nI m) (tx t) (ty t)) w
      unfold ml_S ml_fl at G
      rw [ml_al_f hf tc (by omega), if_neg (by decide)] at G
      exact G
    have Kt : ml_sf ic op ra rb cc pl mo mk tx ty (nI m) t = true → wY_alike_2 post (nI m) n (nI (t + 1)) (nI ic) (nI tc) (nI mc) (ml_E ic op ra rb cc pl mo mk (nI m) (tx t) (ty t)) (ml_L ic op ra rb cc pl mo mk (nI m) (tx t) (ty t)) op ra rb cc tx ty te ex pl co ch w := by
      intro hf
      exact ih n (t + 1) _ _ w (by omega) (by omega) (ml_al_s ha hf)
    refine br_c (fun z => br_c (fun z2 => nm_r (nI_1 t) ?_) (fun z2 => br_c (fun z3 => nm_r (nI_1 t) ?_) (fun z3 => ?_))) (fun z => ?_)
    · refine Kt (decide_eq_true ⟨z, ?_⟩)
      rcases ml_E01 ic op ra rb cc pl mo mk (-1) (tx t) (ty t) with ⟨a1, a2⟩ | a1
      · rcases ml_E01 ic op ra rb cc pl mo mk (nI m) (tx t) (ty t) with ⟨b1, b2⟩ | b1
        · rw [a2, b2]
        · rw [z, a1] at b1; exact absurd b1 (by decide)
      · rw [z2] at a1; exact absurd a1 (by decide)
    · have h1 : ml_E ic op ra rb cc pl mo mk (-1) (tx t) (ty t) = 1 := (ml_E01 ic op ra rb cc pl mo mk (-1) (tx t) (ty t)).resolve_left fun q => z2 q.1
      refine Kt (decide_eq_true ⟨z, ?_⟩)
      rw [← hw (z.trans h1), ← hw1 h1, ← e4]
      exact z3
    · have h1 : ml_E ic op ra rb cc pl mo mk (-1) (tx t) (ty t) = 1 := (ml_E01 ic op ra rb cc pl mo mk (-1) (tx t) (ty t)).resolve_left fun q => z2 q.1
      refine N (decide_eq_false fun q => z3 ?_)
      rw [e4]
      show w 0 = w1 0
      rw [hw (z.trans h1), hw1 h1]
      exact q.2
    · exact N (decide_eq_false fun q => z q.1)
theorem mx_sameL (post : Int32 → SX → Prop) (hP : ml_Pr ic ra rb) (htc : tc ≤ 6) (hmc : mc ≤ 24)
    (H : ∀ (re ro rl : Int32) (rg : Nat → Int32), post (ml_cn (ml_S ic op ra rb cc pl mo mk tx ty tc) mc) (nI ic, nI tc, nI mc, re, ro, rl, op, ra, rb, cc, tx, ty, te, eo, pl, mo, mk, rg, km)) :
    ∀ (d n m : Nat) (re ro rl : Int32) (rg : Nat → Int32), m + d = mc → d < n → wX_same_4 post n (ml_cn (ml_S ic op ra rb cc pl mo mk tx ty tc) m) (nI m) (nI ic) (nI tc) (nI mc) re ro rl op ra rb cc tx ty te eo pl mo mk rg km := by
  intro d
  induction d with
  | zero =>
    intro n m re ro rl rg ht hn
    obtain ⟨n, rfl⟩ : ∃ k, n = k + 1 := ⟨n - 1, by omega⟩
    have e : m = mc := by omega
    subst e
    exact br_t (nI_le (Nat.le_refl _) (by omega)) (H re ro rl rg)
  | succ d ih =>
    intro n m re ro rl rg ht hn
    obtain ⟨n, rfl⟩ : ∃ k, n = k + 1 := ⟨n - 1, by omega⟩
    refine br_f (nI_ge (by omega) (by omega)) ?_
    refine ⟨tc + 1, mx_givesL _ m (by omega) hP htc ?_ tc (tc + 1) 0 re ro rl rg (by omega) (by omega) rfl⟩
    intro re ro rl rg
    have e : ml_cn (ml_S ic op ra rb cc pl mo mk tx ty tc) (m + 1) = if ml_S ic op ra rb cc pl mo mk tx ty tc m = 0 then ml_cn (ml_S ic op ra rb cc pl mo mk tx ty tc) m else ml_cn (ml_S ic op ra rb cc pl mo mk tx ty tc) m + 1 := rfl
    have G := ih n (m + 1) re ro rl rg (by omega) (by omega)
    refine br_c (fun z => nm_r (nI_1 m) ?_) (fun z => nm_e (nm_r (nI_1 m) ?_))
    · rw [e, if_pos z] at G
      exact G
    · rw [e, if_neg z] at G
      exact G
theorem my_sameL (post : Int32 → SY → Prop) (hP : ml_Pr ic ra rb) (htc : tc ≤ 6) (hmc : mc ≤ 24) (hM : ∀ m, m < mc → ml_Mu ic op cc pl mo mk co ch m)
    (H : ∀ (ye yl : Int32) (yr : Nat → Int32), post (ml_cn (ml_S ic op ra rb cc pl mo mk tx ty tc) mc) (nI ic, nI tc, nI mc, ye, yl, op, ra, rb, cc, tx, ty, te, ex, pl, co, ch, yr)) :
    ∀ (d n m : Nat) (ye yl : Int32) (yr : Nat → Int32), m + d = mc → d < n → wY_same_4 post n (ml_cn (ml_S ic op ra rb cc pl mo mk tx ty tc) m) (nI m) (nI ic) (nI tc) (nI mc) ye yl op ra rb cc tx ty te ex pl co ch yr := by
  intro d
  induction d with
  | zero =>
    intro n m ye yl yr ht hn
    obtain ⟨n, rfl⟩ : ∃ k, n = k + 1 := ⟨n - 1, by omega⟩
    have e : m = mc := by omega
    subst e
    exact br_t (nI_le (Nat.le_refl _) (by omega)) (H ye yl yr)
  | succ d ih =>
    intro n m ye yl yr ht hn
    obtain ⟨n, rfl⟩ : ∃ k, n = k + 1 := ⟨n - 1, by omega⟩
    refine br_f (nI_ge (by omega) (by omega)) ?_
    refine ⟨tc + 1, my_alikeL _ m (by omega) (hM m (by omega)) hP htc ?_ tc (tc + 1) 0 ye yl yr (by omega) (by omega) rfl⟩
    intro ye yl yr
    have e : ml_cn (ml_S ic op ra rb cc pl mo mk tx ty tc) (m + 1) = if ml_S ic op ra rb cc pl mo mk tx ty tc m = 0 then ml_cn (ml_S ic op ra rb cc pl mo mk tx ty tc) m else ml_cn (ml_S ic op ra rb cc pl mo mk tx ty tc) m + 1 := rfl
    have G := ih n (m + 1) ye yl yr (by omega) (by omega)
    refine br_c (fun z => nm_r (nI_1 m) ?_) (fun z => nm_e (nm_r (nI_1 m) ?_))
    · rw [e, if_pos z] at G
      exact G
    · rw [e, if_neg z] at G
      exact G
end
