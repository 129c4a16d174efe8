/-! enough: the pure part -/
def ml_si (s : Int32) : Nat → Int32
  | 0 => 0
  | j + 1 => ml_si s j + ((s >>> (nI j &&& 31)) &&& 1)
def ml_sz (s : Nat) : Nat := s % 2 + s / 2 % 2 + s / 4 % 2 + s / 8 % 2 + s / 16 % 2 + s / 32 % 2
theorem ml_siz : ∀ s, s < 64 → ml_si (nI s) 6 = nI (ml_sz s) := by decide +kernel
theorem ml_sz6 (s : Nat) : ml_sz s ≤ 6 := by unfold ml_sz; omega
theorem ml_szm : ∀ k, k < 7 → ∀ s, s < 64 → ml_sz (s % 2 ^ k) ≤ ml_sz s := by decide +kernel
theorem ml_szf : ∀ k, k < 7 → ml_sz (2 ^ k - 1) = k ∧ 2 ^ k ≤ 64 := by decide +kernel
def ml_le (b : Nat) (k : Nat → Bool) : Nat → Nat
  | 0 => b
  | s + 1 => if ml_sz s < ml_le b k s ∧ k s = true then ml_sz s else ml_le b k s
theorem ml_le_b (b : Nat) (k : Nat → Bool) : ∀ n, ml_le b k n ≤ b := by
  intro n
  induction n with
  | zero => exact Nat.le_refl _
  | succ n ih =>
    show (if ml_sz n < ml_le b k n ∧ k n = true then ml_sz n else ml_le b k n) ≤ b
    split
    · rename_i h; omega
    · exact ih
theorem ml_le_s (b : Nat) (k : Nat → Bool) : ∀ n s, s < n → k s = true → ml_le b k n ≤ ml_sz s := by
  intro n
  induction n with
  | zero => intro s h; exact absurd h (by omega)
  | succ n ih =>
    intro s hs hk
    show (if ml_sz n < ml_le b k n ∧ k n = true then ml_sz n else ml_le b k n) ≤ ml_sz s
    by_cases e : s = n
    · subst e
      by_cases h : ml_sz s < ml_le b k s
      · rw [if_pos ⟨h, hk⟩]; exact Nat.le_refl _
      · rw [if_neg (fun q => h q.1)]; omega
    · have := ih s (by omega) hk
      split
      · rename_i h; omega
      · exact this
theorem ml_le_e (b : Nat) (k : Nat → Bool) : ∀ n, ml_le b k n = b ∨ ∃ s, s < n ∧ k s = true ∧ ml_le b k n = ml_sz s := by
  intro n
  induction n with
  | zero => exact Or.inl rfl
  | succ n ih =>
    show (if ml_sz n < ml_le b k n ∧ k n = true then ml_sz n else ml_le b k n) = b ∨ ∃ s, s < n + 1 ∧ k s = true ∧ (if ml_sz n < ml_le b k n ∧ k n = true then ml_sz n else ml_le b k n) = ml_sz s
    by_cases h : ml_sz n < ml_le b k n ∧ k n = true
    · rw [if_pos h]; exact Or.inr ⟨n, by omega, h.2, rfl⟩
    · rw [if_neg h]
      rcases ih with e | ⟨s, hs, hk, e⟩
      · exact Or.inl e
      · exact Or.inr ⟨s, by omega, hk, e⟩
/-- kills all that can be killed: every mask is 0 or meets the set -/
def ml_ka (M : Nat → Int32) (mc : Nat) (s : Nat) : Bool := ml_al (fun m => decide (M m = 0 ∨ ¬ (M m &&& nI s) = 0)) mc
theorem ml_ka_i {M : Nat → Int32} {mc s : Nat} : ml_ka M mc s = true ↔ ∀ m, m < mc → (M m = 0 ∨ ¬ (M m &&& nI s) = 0) := by
  unfold ml_ka
  rw [ml_al_i]
  constructor
  · intro h m hm; exact of_decide_eq_true (h m hm)
  · intro h m hm; exact decide_eq_true (h m hm)
theorem ml_least {M : Nat → Int32} {mc tc : Nat} (htc : tc ≤ 6) (hM : ∀ m, m < mc → ∃ k, k < 2 ^ tc ∧ M m = nI k) : ml_le tc (ml_ka M mc) (2 ^ tc) = ml_le 6 (ml_ka M mc) 64 := by
  obtain ⟨hf, h64⟩ := ml_szf tc (by omega)
  have hpos : 0 < 2 ^ tc := Nat.two_pow_pos tc
  have hred : ∀ k s, k < 2 ^ tc → k &&& (s % 2 ^ tc) = k &&& s := by
    intro k s hk
    have e : k &&& (2 ^ tc - 1) = k := by rw [Nat.and_two_pow_sub_one_eq_mod, Nat.mod_eq_of_lt hk]
    rw [← Nat.and_two_pow_sub_one_eq_mod s tc, Nat.and_comm s, ← Nat.and_assoc, e]
  have kfull : ml_ka M mc (2 ^ tc - 1) = true := by
    rw [ml_ka_i]
    intro m hm
    obtain ⟨k, hk, e⟩ := hM m hm
    by_cases z : M m = 0
    · exact Or.inl z
    · right
      rw [e, nx_and, Nat.and_two_pow_sub_one_eq_mod, Nat.mod_eq_of_lt hk, ← e]
      exact z
  have kmod : ∀ s, ml_ka M mc s = true → ml_ka M mc (s % 2 ^ tc) = true := by
    intro s hs
    rw [ml_ka_i] at hs ⊢
    intro m hm
    obtain ⟨k, hk, e⟩ := hM m hm
    rcases hs m hm with z | z
    · exact Or.inl z
    · right
      rw [e, nx_and] at z ⊢
      rw [hred k s hk]
      exact z
  apply Nat.le_antisymm
  · rcases ml_le_e 6 (ml_ka M mc) 64 with e | ⟨s, hs, hk, e⟩
    · rw [e]
      exact Nat.le_trans (ml_le_b _ _ _) htc
    · rw [e]
      exact Nat.le_trans (ml_le_s tc (ml_ka M mc) (2 ^ tc) (s % 2 ^ tc) (Nat.mod_lt _ hpos) (kmod s hk)) (ml_szm tc (by omega) s hs)
  · rcases ml_le_e tc (ml_ka M mc) (2 ^ tc) with e | ⟨s, hs, hk, e⟩
    · rw [e]
      have := ml_le_s 6 (ml_ka M mc) 64 (2 ^ tc - 1) (by omega) kfull
      omega
    · rw [e]
      exact ml_le_s 6 (ml_ka M mc) 64 s (by omega) hk
theorem ml_or (a b : Nat) : nI a ||| nI b = nI (a ||| b) := by
  apply Int32.toBitVec_inj.1
  show BitVec.ofNat 32 a ||| BitVec.ofNat 32 b = BitVec.ofNat 32 (a ||| b)
  apply BitVec.eq_of_getLsbD_eq
  intro i hi
  simp [hi]
theorem ml_1sh (t : Nat) (ht : t < 31) : (1 : Int32) <<< (nI t &&& 31) = nI (2 ^ t) := by
  have h : 1 * 2 ^ t < 2 ^ 32 := by
    rw [Nat.one_mul]
    exact Nat.pow_lt_pow_right (by decide) (by omega)
  have := pk_shlN (n := 1) (nI t &&& 31) t (s_l t (by omega)) h
  rw [Nat.one_mul] at this
  exact this
theorem ml_mask_b (f : Nat → Int32) : ∀ t, t ≤ 6 → ∃ k, k < 2 ^ t ∧ ml_mask f t = nI k := by
  intro t
  induction t with
  | zero => intro _; exact ⟨0, by decide, rfl⟩
  | succ t ih =>
    intro ht
    obtain ⟨k, hk, e⟩ := ih (by omega)
    have h2 : 2 ^ t < 2 ^ (t + 1) := Nat.pow_lt_pow_right (by decide) (by omega)
    show ∃ k, k < 2 ^ (t + 1) ∧ (if f t = 0 then ml_mask f t ||| ((1 : Int32) <<< (nI t &&& 31)) else ml_mask f t) = nI k
    by_cases z : f t = 0
    · rw [if_pos z, e, ml_1sh t (by omega), ml_or]
      exact ⟨_, Nat.or_lt_two_pow (by omega) h2, rfl⟩
    · rw [if_neg z]
      exact ⟨k, by omega, e⟩
/-! enough: the loops -/
section
variable {ic tc mc : Nat} {op ra rb cc tx ty te eo ex pl mo mk co ch : Nat → Int32} {re ro rl ye yl : Int32} {rg km yr : Nat → Int32}
theorem mx_sizeL (post : Int32 → Prop) (s : Int32) (H : post (ml_si s 6)) : ∀ (d n j : Nat), j + d = 6 → d < n → wX_sizeOf_4 post s (nI ic) (nI tc) (nI mc) re ro rl op ra rb cc tx ty te eo pl mo mk rg km n (ml_si s j) (nI j) := by
  intro d
  induction d with
  | zero =>
    intro n j hj hn
    obtain ⟨n, rfl⟩ : ∃ k, n = k + 1 := ⟨n - 1, by omega⟩
    have e : j = 6 := by omega
    subst e
    exact br_t (by decide) H
  | succ d ih =>
    intro n j hj hn
    obtain ⟨n, rfl⟩ : ∃ k, n = k + 1 := ⟨n - 1, by omega⟩
    exact br_f (nI_ge (b := 6) (by omega) (by decide)) (nm_e (nm_r (nI_1 j) (ih n (j + 1) (by omega) (by omega))))
theorem mx_size (post : Int32 → Prop) (s : Nat) (hs : s < 64) (H : post (nI (ml_sz s))) : wpX_sizeOf post (nI ic, nI tc, nI mc, re, ro, rl, op, ra, rb, cc, tx, ty, te, eo, pl, mo, mk, rg, km) (nI s) :=
  ⟨7, mx_sizeL post (nI s) (by rw [ml_siz s hs]; exact H) 6 7 0 rfl (by decide)⟩
theorem mx_kaL (M : Nat → Int32) (post : Int32 → Prop) (s : Nat) (hmc : mc ≤ 24) (hkm : ∀ m, m < mc → km m = M m) (H : post (ml_fl (ml_ka M mc s))) :
    ∀ (d n m : Nat), m + d = mc → d < n → ml_ka M m s = true → wX_killsAllThatCanBe_2 post (nI s) (nI ic) (nI tc) (nI mc) re ro rl op ra rb cc tx ty te eo pl mo mk rg km n (nI m) := by
  intro d
  induction d with
  | zero =>
    intro n m hm hn ha
    obtain ⟨n, rfl⟩ : ∃ k, n = k + 1 := ⟨n - 1, by omega⟩
    have e : m = mc := by omega
    subst e
    unfold ml_fl at H
    rw [if_pos ha] at H
    exact br_t (nI_le (Nat.le_refl _) (by omega)) H
  | succ d ih =>
    intro n m hm hn ha
    obtain ⟨n, rfl⟩ : ∃ k, n = k + 1 := ⟨n - 1, by omega⟩
    have im : vp_in (nI m) 24 := vp_in_nI (by omega) (by decide)
    have cm : (nI m).toNatClampNeg = m := nI_clamp (by omega)
    have ek := hkm m (by omega)
    refine br_f (nI_ge (by omega) (by omega)) ⟨im, br_c (fun z => nm_r (nI_1 m) ?_) (fun z => ⟨im, br_c (fun z2 => ?_) (fun z2 => nm_r (nI_1 m) ?_)⟩)⟩
    · rw [cm, ek] at z
      exact ih n (m + 1) (by omega) (by omega) (ml_al_s ha (decide_eq_true (Or.inl z)))
    · rw [cm, ek] at z z2
      have hf : ml_ka M mc s = false := ml_al_f (j := m) (decide_eq_false fun q => q.elim z (fun q2 => q2 z2)) mc (by omega)
      unfold ml_fl at H
      rw [hf, if_neg (by decide)] at H
      exact H
    · rw [cm, ek] at z z2
      exact ih n (m + 1) (by omega) (by omega) (ml_al_s ha (decide_eq_true (Or.inr z2)))
theorem mx_ka (M : Nat → Int32) (post : Int32 → Prop) (s : Nat) (hmc : mc ≤ 24) (hkm : ∀ m, m < mc → km m = M m) (H : post (ml_fl (ml_ka M mc s))) : wpX_killsAllThatCanBe post (nI ic, nI tc, nI mc, re, ro, rl, op, ra, rb, cc, tx, ty, te, eo, pl, mo, mk, rg, km) (nI s) :=
  ⟨mc + 1, mx_kaL M post s hmc hkm H mc (mc + 1) 0 (by omega) (by omega) rfl⟩
theorem mx_setsL (M : Nat → Int32) (post : Int32 → SX → Prop) (htc : tc ≤ 6) (hmc : mc ≤ 24) (hkm : ∀ m, m < mc → km m = M m) (H : post (nI (ml_le tc (ml_ka M mc) (2 ^ tc))) (nI ic, nI tc, nI mc, re, ro, rl, op, ra, rb, cc, tx, ty, te, eo, pl, mo, mk, rg, km)) :
    ∀ (d n s : Nat), s + d = 2 ^ tc → d < n → wX_enough_34 post (nI ic) (nI tc) (nI mc) re ro rl op ra rb cc tx ty te eo pl mo mk rg km n (nI (ml_le tc (ml_ka M mc) s)) (nI s) := by
  have h64 : 2 ^ tc ≤ 64 := (ml_szf tc (by omega)).2
  intro d
  induction d with
  | zero =>
    intro n s hs hn
    obtain ⟨n, rfl⟩ : ∃ k, n = k + 1 := ⟨n - 1, by omega⟩
    have e : s = 2 ^ tc := by omega
    subst e
    refine br_t ?_ H
    rw [ml_1sh tc (by omega)]
    exact nI_le (Nat.le_refl _) (by omega)
  | succ d ih =>
    intro n s hs hn
    obtain ⟨n, rfl⟩ : ∃ k, n = k + 1 := ⟨n - 1, by omega⟩
    have hb : ¬ ((1 : Int32) <<< (nI tc &&& 31)) ≤ nI s := by
      rw [ml_1sh tc (by omega)]
      exact nI_ge (by omega) (by omega)
    refine br_f hb (mx_size _ s (by omega) ?_)
    have hle := ml_le_b tc (ml_ka M mc) s
    have hsz := ml_sz6 s
    have G := ih n (s + 1) (by omega) (by omega)
    have e : ml_le tc (ml_ka M mc) (s + 1) = if ml_sz s < ml_le tc (ml_ka M mc) s ∧ ml_ka M mc s = true then ml_sz s else ml_le tc (ml_ka M mc) s := rfl
    rw [e] at G
    refine br_c (fun z => nm_r (nI_1 s) ?_) (fun z => ?_)
    · rw [nI_leI (by omega) (by omega)] at z
      rw [if_neg (fun q => by omega)] at G
      exact G
    · rw [nI_leI (by omega) (by omega)] at z
      refine mx_ka M _ s hmc hkm ?_
      cases hk : ml_ka M mc s with
      | true =>
        rw [if_pos ⟨by omega, hk⟩] at G
        exact br_f (by decide) (nm_r (nI_1 s) G)
      | false =>
        rw [if_neg (fun q => by rw [hk] at q; exact absurd q.2 (by decide))] at G
        exact br_t rfl (nm_r (nI_1 s) G)
theorem mx_fillL (post : Int32 → SX → Prop) (hP : ml_Pr ic ra rb) (htc : tc ≤ 6) (hmc : mc ≤ 24)
    (H : ∀ (re ro rl : Int32) (rg km : Nat → Int32), post (nI (ml_le tc (ml_ka (ml_M ic op ra rb cc pl mo mk tx ty te eo tc) mc) (2 ^ tc))) (nI ic, nI tc, nI mc, re, ro, rl, op, ra, rb, cc, tx, ty, te, eo, pl, mo, mk, rg, km)) :
    ∀ (d n m : Nat) (re ro rl : Int32) (rg km : Nat → Int32), m + d = mc → d < n → (∀ j, j < m → km j = ml_M ic op ra rb cc pl mo mk tx ty te eo tc j) → wX_enough_2 post n (nI m) (nI ic) (nI tc) (nI mc) re ro rl op ra rb cc tx ty te eo pl mo mk rg km := by
  intro d
  induction d with
  | zero =>
    intro n m re ro rl rg km hm hn hk
    obtain ⟨n, rfl⟩ : ∃ k, n = k + 1 := ⟨n - 1, by omega⟩
    have e : m = mc := by omega
    subst e
    exact br_t (nI_le (Nat.le_refl _) (by omega)) ⟨2 ^ tc + 1, mx_setsL (ml_M ic op ra rb cc pl mo mk tx ty te eo tc) post htc hmc hk (H re ro rl rg km) (2 ^ tc) (2 ^ tc + 1) 0 (by omega) (by omega)⟩
  | succ d ih =>
    intro n m re ro rl rg km hm hn hk
    obtain ⟨n, rfl⟩ : ∃ k, n = k + 1 := ⟨n - 1, by omega⟩
    have im : vp_in (nI m) 24 := vp_in_nI (by omega) (by decide)
    have cm : (nI m).toNatClampNeg = m := nI_clamp (by omega)
    refine br_f (nI_ge (by omega) (by omega)) ?_
    refine mx_kil _ m (by omega) hP htc fun re ro rl rg => ?_
    refine ⟨im, fun km' ek => nm_r (nI_1 m) ?_⟩
    rw [cm] at ek
    refine ih n (m + 1) re ro rl rg km' (by omega) (by omega) fun j hj => ?_
    rw [ek]
    by_cases e : j = m
    · subst e; exact pk_us
    · rw [pk_un e]; exact hk j (by omega)
theorem my_kaL (post : Int32 → SY → Prop) (s : Nat) (hP : ml_Pr ic ra rb) (htc : tc ≤ 6) (hmc : mc ≤ 24) (hT : ∀ t, t < tc → ml_Te te eo ex t) (hM : ∀ m, m < mc → ml_Mu ic op cc pl mo mk co ch m)
    (H : ∀ (ye yl : Int32) (yr : Nat → Int32), post (ml_fl (ml_ka (ml_M ic op ra rb cc pl mo mk tx ty te eo tc) mc s)) (nI ic, nI tc, nI mc, ye, yl, op, ra, rb, cc, tx, ty, te, ex, pl, co, ch, yr)) :
    ∀ (d n m : Nat) (ye yl : Int32) (yr : Nat → Int32), m + d = mc → d < n → ml_ka (ml_M ic op ra rb cc pl mo mk tx ty te eo tc) m s = true → wY_killsAll_2 post (nI s) n (nI m) (nI ic) (nI tc) (nI mc) ye yl op ra rb cc tx ty te ex pl co ch yr := by
  intro d
  induction d with
  | zero =>
    intro n m ye yl yr hm hn ha
    obtain ⟨n, rfl⟩ : ∃ k, n = k + 1 := ⟨n - 1, by omega⟩
    have e : m = mc := by omega
    subst e
    have G := H ye yl yr
    unfold ml_fl at G
    rw [if_pos ha] at G
    exact br_t (nI_le (Nat.le_refl _) (by omega)) G
  | succ d ih =>
    intro n m ye yl yr hm hn ha
    obtain ⟨n, rfl⟩ : ∃ k, n = k + 1 := ⟨n - 1, by omega⟩
    refine br_f (nI_ge (by omega) (by omega)) ?_
    refine my_kil (mo := mo) (mk := mk) (eo := eo) _ m (by omega) hmc (hM m (by omega)) hP htc hT fun ye yl yr => ?_
    refine br_c (fun z => nm_r (nI_1 m) ?_) (fun z => br_c (fun z2 => ?_) (fun z2 => nm_r (nI_1 m) ?_))
    · exact ih n (m + 1) ye yl yr (by omega) (by omega) (ml_al_s ha (decide_eq_true (Or.inl z)))
    · have hf : ml_ka (ml_M ic op ra rb cc pl mo mk tx ty te eo tc) mc s = false := ml_al_f (j := m) (decide_eq_false fun q => q.elim z (fun q2 => q2 z2)) mc (by omega)
      have G := H ye yl yr
      unfold ml_fl at G
      rw [hf, if_neg (by decide)] at G
      exact G
    · exact ih n (m + 1) ye yl yr (by omega) (by omega) (ml_al_s ha (decide_eq_true (Or.inr z2)))
theorem my_16 (post : Int32 → SY → Prop) (J : Int32 → Int32 → Int32 → Int32 → Int32 → Int32 → Int32 → (Nat → Int32) → (Nat → Int32) → (Nat → Int32) → (Nat → Int32) → (Nat → Int32) → (Nat → Int32) → (Nat → Int32) → (Nat → Int32) → (Nat → Int32) → (Nat → Int32) → (Nat → Int32) → (Nat → Int32) → Prop)
    (s : Nat) (hs : s < 64) (hP : ml_Pr ic ra rb) (htc : tc ≤ 6) (hmc : mc ≤ 24) (hT : ∀ t, t < tc → ml_Te te eo ex t) (hM : ∀ m, m < mc → ml_Mu ic op cc pl mo mk co ch m)
    (H : ∀ (ye yl : Int32) (yr : Nat → Int32), J (nI (ml_le 6 (ml_ka (ml_M ic op ra rb cc pl mo mk tx ty te eo tc) mc) (s + 1))) (nI (s + 1)) (nI ic) (nI tc) (nI mc) ye yl op ra rb cc tx ty te ex pl co ch yr) :
    ∀ (d n j : Nat), j + d = 6 → d < n → wY_enough_16 post J (nI (ml_le 6 (ml_ka (ml_M ic op ra rb cc pl mo mk tx ty te eo tc) mc) s)) (nI s) (nI ic) (nI tc) (nI mc) ye yl op ra rb cc tx ty te ex pl co ch yr n (ml_si (nI s) j) (nI j) := by
  intro d
  induction d with
  | zero =>
    intro n j hj hn
    obtain ⟨n, rfl⟩ : ∃ k, n = k + 1 := ⟨n - 1, by omega⟩
    have e : j = 6 := by omega
    subst e
    rw [ml_siz s hs]
    have hle := ml_le_b 6 (ml_ka (ml_M ic op ra rb cc pl mo mk tx ty te eo tc) mc) s
    have hsz := ml_sz6 s
    have e : ml_le 6 (ml_ka (ml_M ic op ra rb cc pl mo mk tx ty te eo tc) mc) (s + 1) = if ml_sz s < ml_le 6 (ml_ka (ml_M ic op ra rb cc pl mo mk tx ty te eo tc) mc) s ∧ ml_ka (ml_M ic op ra rb cc pl mo mk tx ty te eo tc) mc s = true then ml_sz s else ml_le 6 (ml_ka (ml_M ic op ra rb cc pl mo mk tx ty te eo tc) mc) s := rfl
    rw [e] at H
    refine br_t (by decide) (br_c (fun z => nm_r (nI_1 s) ?_) (fun z => ?_))
    · rw [nI_leI (by omega) (by omega)] at z
      rw [if_neg (fun q => by omega)] at H
      exact H ye yl yr
    · rw [nI_leI (by omega) (by omega)] at z
      refine ⟨mc + 1, my_kaL (mo := mo) (mk := mk) (eo := eo) _ s hP htc hmc hT hM ?_ mc (mc + 1) 0 ye yl yr (by omega) (by omega) rfl⟩
      intro ye yl yr
      cases hk : ml_ka (ml_M ic op ra rb cc pl mo mk tx ty te eo tc) mc s with
      | true =>
        rw [if_pos ⟨by omega, hk⟩] at H
        exact br_f (by decide) (nm_r (nI_1 s) (H ye yl yr))
      | false =>
        rw [if_neg (fun q => by rw [hk] at q; exact absurd q.2 (by decide))] at H
        exact br_t rfl (nm_r (nI_1 s) (H ye yl yr))
  | succ d ih =>
    intro n j hj hn
    obtain ⟨n, rfl⟩ : ∃ k, n = k + 1 := ⟨n - 1, by omega⟩
    exact br_f (nI_ge (b := 6) (by omega) (by decide)) (nm_e (nm_r (nI_1 j) (ih n (j + 1) (by omega) (by omega))))
theorem my_setsL (post : Int32 → SY → Prop) (hP : ml_Pr ic ra rb) (htc : tc ≤ 6) (hmc : mc ≤ 24) (hT : ∀ t, t < tc → ml_Te te eo ex t) (hM : ∀ m, m < mc → ml_Mu ic op cc pl mo mk co ch m)
    (H : ∀ (ye yl : Int32) (yr : Nat → Int32), post (nI (ml_le 6 (ml_ka (ml_M ic op ra rb cc pl mo mk tx ty te eo tc) mc) 64)) (nI ic, nI tc, nI mc, ye, yl, op, ra, rb, cc, tx, ty, te, ex, pl, co, ch, yr)) :
    ∀ (d n s : Nat) (ye yl : Int32) (yr : Nat → Int32), s + d = 64 → d < n → wY_enough_5 post n (nI (ml_le 6 (ml_ka (ml_M ic op ra rb cc pl mo mk tx ty te eo tc) mc) s)) (nI s) (nI ic) (nI tc) (nI mc) ye yl op ra rb cc tx ty te ex pl co ch yr := by
  intro d
  induction d with
  | zero =>
    intro n s ye yl yr hs hn
    obtain ⟨n, rfl⟩ : ∃ k, n = k + 1 := ⟨n - 1, by omega⟩
    have e : s = 64 := by omega
    subst e
    exact br_t (by decide) (H ye yl yr)
  | succ d ih =>
    intro n s ye yl yr hs hn
    obtain ⟨n, rfl⟩ : ∃ k, n = k + 1 := ⟨n - 1, by omega⟩
    refine br_f (nI_ge (b := 64) (by omega) (by decide)) ⟨7, ?_⟩
    exact my_16 (mo := mo) (mk := mk) (eo := eo) post (wY_enough_5 post n) s (by omega) hP htc hmc hT hM (fun ye yl yr => ih n (s + 1) ye yl yr (by omega) (by omega)) 6 7 0 rfl (by decide)
end
