/-! run on the component's side -/
section
variable {ic tc mc : Nat} {op ra rb cc tx ty te eo ex pl mo mk co ch : Nat → Int32} {re ro rl ye yl : Int32} {rg km yr : Nat → Int32}
theorem mx_carry (post : Int32 → SX → Prop) (p a b : Nat) (hp : p < 12) (ha : a < 4) (hb : b < 4) (ea : ra p = nI a) (eb : rb p = nI b) (o c : Int32) (r : Nat → Int32) (hr : ∀ j, j < 4 → rg j = r j)
    (H : ∀ s, (∀ j, j < 4 → s j = ml_regs o a b c r j) → post (ml_next o a b c p r) (nI ic, nI tc, nI mc, re, ro, rl, op, ra, rb, cc, tx, ty, te, eo, pl, mo, mk, s, km)) : wpX_carryOut post (nI ic, nI tc, nI mc, re, ro, rl, op, ra, rb, cc, tx, ty, te, eo, pl, mo, mk, rg, km) (nI p) o c := by
  have hc : (nI p).toNatClampNeg = p := nI_clamp (by omega)
  have hca : (nI a).toNatClampNeg = a := nI_clamp (by omega)
  have hcb : (nI b).toNatClampNeg = b := nI_clamp (by omega)
  have ia : vp_in (nI a) 4 := vp_in_nI ha (by decide)
  have ib : vp_in (nI b) 4 := vp_in_nI hb (by decide)
  have ip : vp_in (nI p) 12 := vp_in_nI hp (by decide)
  have ga : rg a = r a := hr a ha
  have gb : rg b = r b := hr b hb
  refine ⟨ip, fun x4 e4 => ⟨ip, fun x5 e5 x6 e6 => ?_⟩⟩
  rw [hc, ea] at e4
  rw [hc, eb] at e5
  rw [nI_1] at e6
  subst e4 e5 e6
  rw [hca, hcb]
  rcases ml_codes o with h | rfl | rfl | rfl | rfl | rfl | rfl | rfl
  · rw [ml_n7 h, ml_r_7 h] at H
    have K : ∀ s, s = upd rg a (rg a + c) → post (nI (p + 1)) (nI ic, nI tc, nI mc, re, ro, rl, op, ra, rb, cc, tx, ty, te, eo, pl, mo, mk, s, km) := fun s es => H s (es ▸ ml_ag hr (by rw [ga]))
    by_cases h0 : o < 0
    · exact br_t h0 ⟨ia, ia, K⟩
    · have h6 : 6 < o := h.resolve_left h0
      exact br_f h0 (br_t h6 ⟨ia, ia, K⟩)
  · rw [ml_n0, ml_r_0] at H
    exact br_f (by decide) (br_f (by decide) (br_t rfl ⟨ia, fun s es => H s (es ▸ ml_ag hr rfl)⟩))
  · rw [ml_n1, ml_r_1] at H
    exact br_f (by decide) (br_f (by decide) (br_f (by decide) (br_t rfl ⟨ia, ib, ia, fun s es => H s (es ▸ ml_ag hr (by rw [ga, gb]))⟩)))
  · rw [ml_n2, ml_r_2] at H
    exact br_f (by decide) (br_f (by decide) (br_f (by decide) (br_f (by decide) (br_t rfl ⟨ia, ib, ia, fun s es => H s (es ▸ ml_ag hr (by rw [ga, gb]))⟩))))
  · rw [ml_n3, ml_r_3] at H
    exact br_f (by decide) (br_f (by decide) (br_f (by decide) (br_f (by decide) (br_f (by decide) (br_t rfl ⟨ia, ib, ia, fun s es => H s (es ▸ ml_ag hr (by rw [ga, gb]))⟩)))))
  · rw [ml_n4, ml_r_4] at H
    refine br_f (by decide) (br_f (by decide) (br_f (by decide) (br_f (by decide) (br_f (by decide) (br_f (by decide) (br_t rfl ⟨ib, ia, br_c (fun z => ⟨ia, ia, fun s es => H s (es ▸ ml_ag hr ?_)⟩) (fun z => ⟨ib, ia, fun s es => H s (es ▸ ml_ag hr ?_)⟩)⟩))))))
    · rw [ga, gb] at z
      rw [if_pos z, ga]
    · rw [ga, gb] at z
      rw [if_neg z, gb]
  · rw [ml_n5, ml_r_5] at H
    refine br_f (by decide) (br_f (by decide) (br_f (by decide) (br_f (by decide) (br_f (by decide) (br_f (by decide) (br_f (by decide) (br_t rfl ⟨ia, ib, br_c (fun z => ?_) (fun z => ?_)⟩)))))))
    · rw [ga, gb] at z
      have K := H rg hr
      rw [if_pos z] at K
      exact K
    · rw [ga, gb] at z
      have K := H rg hr
      rw [if_neg z] at K
      exact K
  · rw [ml_n6, ml_r_6] at H
    refine br_f (by decide) (br_f (by decide) (br_f (by decide) (br_f (by decide) (br_f (by decide) (br_f (by decide) (br_f (by decide) (br_f (by decide) (br_t rfl ⟨ia, br_c (fun z => ?_) (fun z => ?_)⟩))))))))
    · rw [ga] at z
      have K := H rg hr
      rw [if_pos z] at K
      exact K
    · rw [ga] at z
      have K := H rg hr
      rw [if_neg z] at K
      exact K
theorem mx_117 (post : SX → Prop) (J : Int32 → Int32 → Int32 → Int32 → Int32 → Int32 → Int32 → Int32 → (Nat → Int32) → (Nat → Int32) → (Nat → Int32) → (Nat → Int32) → (Nat → Int32) → (Nat → Int32) → (Nat → Int32) → (Nat → Int32) → (Nat → Int32) → (Nat → Int32) → (Nat → Int32) → (Nat → Int32) → (Nat → Int32) → Prop)
    (mu : Int32) (p s a b : Nat) (hp : p < 12) (ha : a < 4) (hb : b < 4) (ea : ra p = nI a) (eb : rb p = nI b) (o c : Int32) (r : Nat → Int32) (hr : ∀ j, j < 4 → rg j = r j)
    (H : ∀ w, (∀ j, j < 4 → w j = ml_regs o a b c r j) → J (ml_next o a b c p r) (nI (s + 1)) (nI ic) (nI tc) (nI mc) re ro rl op ra rb cc tx ty te eo pl mo mk w km) : wX_run_117 post J mu (nI p) (nI s) o c (nI ic) (nI tc) (nI mc) re ro rl op ra rb cc tx ty te eo pl mo mk rg km := by
  unfold wX_run_117
  refine mx_carry _ p a b hp ha hb ea eb o c r hr fun w hw => ?_
  intro x5 e5
  rw [nI_1] at e5
  subst e5
  exact H w hw
theorem mx_loop (post : SX → Prop) (mu : Int32) (hmu : mu = -1 ∨ ∃ m : Nat, m < 24 ∧ mu = nI m) (hi : ic ≤ 12) (hA : ∀ p, p < ic → ∃ a, a < 4 ∧ ra p = nI a) (hB : ∀ p, p < ic → ∃ b, b < 4 ∧ rb p = nI b) :
    ∀ (d n : Nat) (p : Int32) (r : Nat → Int32) (s : Nat) (rg : Nat → Int32), d < n → s + d = 100 → (∀ j, j < 4 → rg j = r j) →
    (∀ w, (∀ j, j < 4 → w j = (ml_go ic (ml_eff pl mo op mu) (ml_eff pl mk cc mu) ra rb d p r s).2.1 j) → wX_run_137 post (ml_go ic (ml_eff pl mo op mu) (ml_eff pl mk cc mu) ra rb d p r s).1 (nI (ml_go ic (ml_eff pl mo op mu) (ml_eff pl mk cc mu) ra rb d p r s).2.2) (nI ic) (nI tc) (nI mc) re ro rl op ra rb cc tx ty te eo pl mo mk w km) →
    wX_run_34 post mu n p (nI s) (nI ic) (nI tc) (nI mc) re ro rl op ra rb cc tx ty te eo pl mo mk rg km := by
  intro d
  induction d with
  | zero =>
    intro n p r s rg hn hs hr H
    obtain ⟨n, rfl⟩ : ∃ k, n = k + 1 := ⟨n - 1, by omega⟩
    have hs' : s = 100 := by omega
    subst hs'
    exact br_t (by decide) (H rg hr)
  | succ d ih =>
    intro n p r s rg hn hs hr H
    obtain ⟨n, rfl⟩ : ∃ k, n = k + 1 := ⟨n - 1, by omega⟩
    have h100 : ¬ (100 : Int32) ≤ nI s := nI_ge (b := 100) (by omega) (by decide)
    by_cases h0 : p < 0
    · rw [ml_goOut _ _ _ _ _ _ _ _ _ (Or.inl h0)] at H
      exact br_f h100 (br_t h0 (br_t rfl (H rg hr)))
    · by_cases h1 : nI ic ≤ p
      · rw [ml_goOut _ _ _ _ _ _ _ _ _ (Or.inr h1)] at H
        exact br_f h100 (br_f h0 (br_t h1 (br_t rfl (H rg hr))))
      · obtain ⟨q, hq, rfl⟩ := nI_of h0
        have hqi : q < ic := by
          rw [nI_leI (by omega) hq] at h1
          omega
        obtain ⟨a, ha, ea⟩ := hA q hqi
        obtain ⟨b, hb, eb⟩ := hB q hqi
        rw [ml_goIn ic _ _ ra rb d q a b r s hqi hi ha hb ea eb] at H
        have cq : (nI q).toNatClampNeg = q := nI_clamp (by omega)
        have iq : vp_in (nI q) 12 := vp_in_nI (by omega) (by decide)
        have K : ∀ o c : Int32, o = ml_eff pl mo op mu q → c = ml_eff pl mk cc mu q → wX_run_117 post (wX_run_34 post mu n) mu (nI q) (nI s) o c (nI ic) (nI tc) (nI mc) re ro rl op ra rb cc tx ty te eo pl mo mk rg km := by
          intro o c eo' ec'
          subst eo' ec'
          exact mx_117 post (wX_run_34 post mu n) mu q s a b (by omega) ha hb ea eb _ _ r hr fun w hw => ih n _ _ (s + 1) w (by omega) (by omega) hw H
        have K0 : op q = ml_eff pl mo op mu q → cc q = ml_eff pl mk cc mu q → wX_run_70 post (wX_run_34 post mu n) mu (nI q) (nI s) (nI ic) (nI tc) (nI mc) re ro rl op ra rb cc tx ty te eo pl mo mk rg km := by
          intro e1 e2
          refine br_t rfl ⟨iq, br_t rfl ⟨iq, ?_⟩⟩
          rw [cq]
          exact K _ _ e1 e2
        refine br_f h100 (br_f h0 (br_f h1 (br_f (by decide) ?_)))
        rcases hmu with hm | ⟨m, hm, em⟩
        · refine br_t hm (K0 ?_ ?_)
          · unfold ml_eff; rw [if_pos hm]
          · unfold ml_eff; rw [if_pos hm]
        · have hne : ¬ mu = -1 := by
            rw [em]
            intro z
            have := congrArg Int32.toInt z
            rw [nI_toInt (by omega), show (-1 : Int32).toInt = -1 from by decide] at this
            omega
          have im : vp_in mu 24 := by rw [em]; exact vp_in_nI hm (by decide)
          refine br_f hne ⟨im, br_c (fun z => ?_) (fun z => ?_)⟩
          · refine br_f (by decide) ⟨im, br_f (by decide) ⟨im, ?_⟩⟩
            refine K _ _ ?_ ?_
            · unfold ml_eff; rw [if_neg hne, if_pos z]
            · unfold ml_eff; rw [if_neg hne, if_pos z]
          · refine K0 ?_ ?_
            · unfold ml_eff; rw [if_neg hne, if_neg z]
            · unfold ml_eff; rw [if_neg hne, if_neg z]
theorem mx_r0 (f : Nat → Int32) (x y : Int32) : ∀ j, j < 4 → upd (upd (upd (upd f 0 x) 1 y) 2 0) 3 0 j = ml_r0 x y j := by
  intro j hj
  match j, hj with
  | 0, _ => rfl
  | 1, _ => rfl
  | 2, _ => rfl
  | 3, _ => rfl
  | (k + 4), hk => exact absurd hk (by omega)
theorem mx_run (post : SX → Prop) (mu : Int32) (hmu : mu = -1 ∨ ∃ m : Nat, m < 24 ∧ mu = nI m) (hi : ic ≤ 12) (hA : ∀ p, p < ic → ∃ a, a < 4 ∧ ra p = nI a) (hB : ∀ p, p < ic → ∃ b, b < 4 ∧ rb p = nI b) (x y : Int32)
    (H : ∀ w, post (nI ic, nI tc, nI mc, ml_E ic op ra rb cc pl mo mk mu x y, ml_O ic op ra rb cc pl mo mk mu x y, ml_L ic op ra rb cc pl mo mk mu x y, op, ra, rb, cc, tx, ty, te, eo, pl, mo, mk, w, km)) : wpX_run post (nI ic, nI tc, nI mc, re, ro, rl, op, ra, rb, cc, tx, ty, te, eo, pl, mo, mk, rg, km) mu x y := by
  intro r1 e1 r2 e2 r3 e3 r4 e4
  subst e1 e2 e3 e4
  refine ⟨101, ?_⟩
  refine mx_loop post mu hmu hi hA hB 100 101 0 (ml_r0 x y) 0 _ (by decide) rfl (mx_r0 rg x y) ?_
  intro w hw
  have K : ∀ z : Int32, z = ml_E ic op ra rb cc pl mo mk mu x y → (z = 0 ∨ z = 1) → wX_run_152 post (ml_L ic op ra rb cc pl mo mk mu x y) z (nI ic) (nI tc) (nI mc) re ro rl op ra rb cc tx ty te eo pl mo mk w km := by
    intro z ez hz
    have G := H w
    have e0 := hw 0 (by decide)
    have hN : narrow .boolean (.int z) = .int z := by rcases hz with rfl | rfl <;> rfl
    have hF : fits .boolean (.int z) = true := by rcases hz with rfl | rfl <;> decide
    refine ⟨hN, hF, ?_⟩
    by_cases hout : (ml_fin ic op ra rb cc pl mo mk mu x y).1 < 0 ∨ nI ic ≤ (ml_fin ic op ra rb cc pl mo mk mu x y).1
    · have hE : ml_E ic op ra rb cc pl mo mk mu x y = 1 := by unfold ml_E; rw [if_pos hout]
      have hO : ml_O ic op ra rb cc pl mo mk mu x y = w 0 := by unfold ml_O; rw [if_pos hout]; exact e0.symm
      rw [← ez, hO] at G
      refine br_f (by rw [ez, hE]; decide) fun q eq => ?_
      subst eq
      exact G
    · have hE : ml_E ic op ra rb cc pl mo mk mu x y = 0 := by unfold ml_E; rw [if_neg hout]
      have hO : ml_O ic op ra rb cc pl mo mk mu x y = 0 := by unfold ml_O; rw [if_neg hout]
      rw [← ez, hO] at G
      exact br_t (by rw [ez, hE]) G
  show wX_run_137 post (ml_fin ic op ra rb cc pl mo mk mu x y).1 (ml_L ic op ra rb cc pl mo mk mu x y) (nI ic) (nI tc) (nI mc) re ro rl op ra rb cc tx ty te eo pl mo mk w km
  by_cases h0 : (ml_fin ic op ra rb cc pl mo mk mu x y).1 < 0
  · exact br_t h0 (br_t rfl (K 1 (by unfold ml_E; rw [if_pos (Or.inl h0)]) (Or.inr rfl)))
  · by_cases h1 : nI ic ≤ (ml_fin ic op ra rb cc pl mo mk mu x y).1
    · exact br_f h0 (br_t h1 (br_t rfl (K 1 (by unfold ml_E; rw [if_pos (Or.inr h1)]) (Or.inr rfl))))
    · exact br_f h0 (br_f h1 (br_f (by decide) (K 0 (by unfold ml_E; rw [if_neg (fun z => z.elim h0 h1)]) (Or.inl rfl))))
end
