/-! run on the reference's side -/
def ml_Mu (ic : Nat) (op cc pl mo mk co ch : Nat → Int32) (m : Nat) : Prop :=
  ∃ p, p < ic ∧ pl m = nI p ∧ ((co m = 0 ∧ mo m = op p ∧ mk m = ch m) ∨ (co m = 1 ∧ mo m = ch m ∧ mk m = cc p))
section
variable {ic tc mc : Nat} {op ra rb cc tx ty te eo ex pl mo mk co ch : Nat → Int32} {re ro rl ye yl : Int32} {rg km yr : Nat → Int32}
theorem my_carry (post : Int32 → SY → Prop) (p a b : Nat) (ha : a < 4) (hb : b < 4) (o c : Int32) (r : Nat → Int32) (hr : ∀ j, j < 4 → yr j = r j)
    (H : ∀ s, (∀ j, j < 4 → s j = ml_regs o a b c r j) → post (ml_next o a b c p r) (nI ic, nI tc, nI mc, ye, yl, op, ra, rb, cc, tx, ty, te, ex, pl, co, ch, s)) : wpY_carryOut post (nI ic, nI tc, nI mc, ye, yl, op, ra, rb, cc, tx, ty, te, ex, pl, co, ch, yr) o (nI a) (nI b) c (nI p) := by
  have hca : (nI a).toNatClampNeg = a := nI_clamp (by omega)
  have hcb : (nI b).toNatClampNeg = b := nI_clamp (by omega)
  have ia : vp_in (nI a) 4 := vp_in_nI ha (by decide)
  have ib : vp_in (nI b) 4 := vp_in_nI hb (by decide)
  have ga : yr a = r a := hr a ha
  have gb : yr b = r b := hr b hb
  unfold wpY_carryOut
  dsimp only
  rw [hca, hcb, nI_1 p]
  rcases ml_codes o with h | rfl | rfl | rfl | rfl | rfl | rfl | rfl
  · rw [ml_n7 h, ml_r_7 h] at H
    have K : ∀ s, s = upd yr a (yr a + c) → post (nI (p + 1)) (nI ic, nI tc, nI mc, ye, yl, op, ra, rb, cc, tx, ty, te, ex, pl, co, ch, s) := fun s es => H s (es ▸ ml_ag hr (by rw [ga]))
    exact br_f (ml_ne h (by decide)) (br_f (ml_ne h (by decide)) (br_f (ml_ne h (by decide)) (br_f (ml_ne h (by decide)) (br_f (ml_ne h (by decide)) (br_f (ml_ne h (by decide)) (br_f (ml_ne h (by decide)) ⟨ia, ia, K⟩))))))
  · rw [ml_n0, ml_r_0] at H
    exact br_t rfl ⟨ia, fun s es => H s (es ▸ ml_ag hr rfl)⟩
  · rw [ml_n1, ml_r_1] at H
    exact br_f (by decide) (br_t rfl ⟨ia, ib, ia, fun s es => H s (es ▸ ml_ag hr (by rw [ga, gb]))⟩)
  · rw [ml_n2, ml_r_2] at H
    exact br_f (by decide) (br_f (by decide) (br_t rfl ⟨ia, ib, ia, fun s es => H s (es ▸ ml_ag hr (by rw [ga, gb]))⟩))
  · rw [ml_n3, ml_r_3] at H
    exact br_f (by decide) (br_f (by decide) (br_f (by decide) (br_t rfl ⟨ia, ib, ia, fun s es => H s (es ▸ ml_ag hr (by rw [ga, gb]))⟩)))
  · rw [ml_n4, ml_r_4] at H
    refine br_f (by decide) (br_f (by decide) (br_f (by decide) (br_f (by decide) (br_t rfl ⟨ib, ia, br_c (fun z => ⟨ia, ia, fun s es => H s (es ▸ ml_ag hr ?_)⟩) (fun z => ⟨ib, ia, fun s es => H s (es ▸ ml_ag hr ?_)⟩)⟩))))
    · rw [ga, gb] at z
      rw [if_pos z, ga]
    · rw [ga, gb] at z
      rw [if_neg z, gb]
  · rw [ml_n5, ml_r_5] at H
    refine br_f (by decide) (br_f (by decide) (br_f (by decide) (br_f (by decide) (br_f (by decide) (br_t rfl ⟨ia, ib, br_c (fun z => ?_) (fun z => ?_)⟩)))))
    · rw [ga, gb] at z
      have K := H yr hr
      rw [if_pos z] at K
      exact K
    · rw [ga, gb] at z
      have K := H yr hr
      rw [if_neg z] at K
      exact K
  · rw [ml_n6, ml_r_6] at H
    refine br_f (by decide) (br_f (by decide) (br_f (by decide) (br_f (by decide) (br_f (by decide) (br_f (by decide) (br_t rfl ⟨ia, br_c (fun z => ?_) (fun z => ?_)⟩))))))
    · rw [ga] at z
      have K := H yr hr
      rw [if_pos z] at K
      exact K
    · rw [ga] at z
      have K := H yr hr
      rw [if_neg z] at K
      exact K
theorem my_121 (post : SY → Prop) (J : Int32 → Int32 → Int32 → Int32 → Int32 → Int32 → Int32 → (Nat → Int32) → (Nat → Int32) → (Nat → Int32) → (Nat → Int32) → (Nat → Int32) → (Nat → Int32) → (Nat → Int32) → (Nat → Int32) → (Nat → Int32) → (Nat → Int32) → (Nat → Int32) → (Nat → Int32) → Prop)
    (mu : Int32) (p k s a b : Nat) (hp : p < 12) (ha : a < 4) (hb : b < 4) (ea : ra p = nI a) (eb : rb p = nI b) (o c : Int32) (r : Nat → Int32) (hr : ∀ j, j < 4 → yr j = r j)
    (H : ∀ w, (∀ j, j < 4 → w j = ml_regs o a b c r j) → J (ml_next o a b c p r) (nI (k + 1)) (nI ic) (nI tc) (nI mc) ye (nI (s + 1)) op ra rb cc tx ty te ex pl co ch w) : wY_run_121 post J mu (nI p) (nI k) o c (nI ic) (nI tc) (nI mc) ye (nI s) op ra rb cc tx ty te ex pl co ch yr := by
  have hc : (nI p).toNatClampNeg = p := nI_clamp (by omega)
  have ip : vp_in (nI p) 12 := vp_in_nI hp (by decide)
  unfold wY_run_121
  rw [hc, ea, eb]
  refine ⟨ip, ip, ?_⟩
  refine my_carry _ p a b ha hb o c r hr fun w hw => ?_
  intro f ef x5 e5
  rw [nI_1] at ef e5
  subst ef e5
  exact H w hw
theorem my_loop (post : SY → Prop) (mu : Int32) (hmu : mu = -1 ∨ ∃ m : Nat, m < 24 ∧ mu = nI m ∧ ml_Mu ic op cc pl mo mk co ch m) (hi : ic ≤ 12) (hA : ∀ p, p < ic → ∃ a, a < 4 ∧ ra p = nI a) (hB : ∀ p, p < ic → ∃ b, b < 4 ∧ rb p = nI b) :
    ∀ (d n : Nat) (p : Int32) (r : Nat → Int32) (s k : Nat) (yr : Nat → Int32), d < n → k + d = 100 → (∀ j, j < 4 → yr j = r j) →
    (∀ w, (∀ j, j < 4 → w j = (ml_go ic (ml_eff pl mo op mu) (ml_eff pl mk cc mu) ra rb d p r s).2.1 j) → post (nI ic, nI tc, nI mc, if (ml_go ic (ml_eff pl mo op mu) (ml_eff pl mk cc mu) ra rb d p r s).1 < 0 ∨ nI ic ≤ (ml_go ic (ml_eff pl mo op mu) (ml_eff pl mk cc mu) ra rb d p r s).1 then 1 else 0, nI (ml_go ic (ml_eff pl mo op mu) (ml_eff pl mk cc mu) ra rb d p r s).2.2, op, ra, rb, cc, tx, ty, te, ex, pl, co, ch, w)) →
    wY_run_39 post mu n p (nI k) (nI ic) (nI tc) (nI mc) ye (nI s) op ra rb cc tx ty te ex pl co ch yr := by
  intro d
  induction d with
  | zero =>
    intro n p r s k yr hn hk hr H
    obtain ⟨n, rfl⟩ : ∃ k, n = k + 1 := ⟨n - 1, by omega⟩
    have hk' : k = 100 := by omega
    subst hk'
    have G := H yr hr
    rw [ml_go0] at G
    refine br_t (by decide) ?_
    by_cases h0 : p < 0
    · rw [if_pos (Or.inl h0)] at G
      exact br_t h0 G
    · by_cases h1 : p < nI ic
      · rw [if_neg (fun z => z.elim h0 (Int32.not_le.mpr h1))] at G
        exact br_f h0 (br_t h1 G)
      · rw [if_pos (Or.inr (Int32.not_lt.mp h1))] at G
        exact br_f h0 (br_f h1 G)
  | succ d ih =>
    intro n p r s k yr hn hk hr H
    obtain ⟨n, rfl⟩ : ∃ k, n = k + 1 := ⟨n - 1, by omega⟩
    have h100 : ¬ (100 : Int32) ≤ nI k := nI_ge (b := 100) (by omega) (by decide)
    by_cases h0 : p < 0
    · rw [ml_goOut _ _ _ _ _ _ _ _ _ (Or.inl h0)] at H
      refine br_f h100 (br_t h0 fun x5 e5 => ?_)
      rw [nI_1] at e5
      subst e5
      refine ih n p r s (k + 1) yr (by omega) (by omega) hr ?_
      rw [ml_goOut _ _ _ _ _ _ _ _ _ (Or.inl h0)]
      exact H
    · by_cases h1 : nI ic ≤ p
      · rw [ml_goOut _ _ _ _ _ _ _ _ _ (Or.inr h1)] at H
        refine br_f h100 (br_f h0 (br_t h1 fun x5 e5 => ?_))
        rw [nI_1] at e5
        subst e5
        refine ih n p r s (k + 1) yr (by omega) (by omega) hr ?_
        rw [ml_goOut _ _ _ _ _ _ _ _ _ (Or.inr h1)]
        exact H
      · obtain ⟨q, hq, rfl⟩ := nI_of h0
        have hqi : q < ic := by
          rw [nI_leI (by omega) hq] at h1
          omega
        obtain ⟨a, ha, ea⟩ := hA q hqi
        obtain ⟨b, hb, eb⟩ := hB q hqi
        rw [ml_goIn ic _ _ ra rb d q a b r s hqi hi ha hb ea eb] at H
        have cq : (nI q).toNatClampNeg = q := nI_clamp (by omega)
        have iq : vp_in (nI q) 12 := vp_in_nI (by omega) (by decide)
        have K : ∀ o c : Int32, o = ml_eff pl mo op mu q → c = ml_eff pl mk cc mu q → wY_run_121 post (wY_run_39 post mu n) mu (nI q) (nI k) o c (nI ic) (nI tc) (nI mc) ye (nI s) op ra rb cc tx ty te ex pl co ch yr := by
          intro o c eo' ec'
          subst eo' ec'
          exact my_121 post (wY_run_39 post mu n) mu q k s a b (by omega) ha hb ea eb _ _ r hr fun w hw => ih n _ _ (s + 1) (k + 1) w (by omega) (by omega) hw H
        refine br_f h100 (br_f h0 (br_f h1 ⟨iq, fun x6 e6 => ⟨iq, fun x7 e7 => ?_⟩⟩))
        rw [cq] at e6 e7
        rcases hmu with hm | ⟨m, hm, em, g, hg, eg, hgc⟩
        · refine br_t (by rw [hm]; decide) (K _ _ ?_ ?_)
          · unfold ml_eff; rw [if_pos hm, e6]
          · unfold ml_eff; rw [if_pos hm, e7]
        · have hn0 : ¬ mu < 0 := by rw [em]; exact nI_pos (by omega)
          have hne : ¬ mu = -1 := by
            intro z
            rw [z] at hn0
            exact hn0 (by decide)
          have im : vp_in mu 24 := by rw [em]; exact vp_in_nI hm (by decide)
          have cm : mu.toNatClampNeg = m := by rw [em]; exact nI_clamp (by omega)
          refine br_f hn0 ⟨im, br_c (fun z => ⟨im, ?_⟩) (fun z => ?_)⟩
          · have z' := z
            rw [cm, eg, nI_eq (by omega) (by omega)] at z'
            subst z'
            rcases hgc with ⟨c1, c2, c3⟩ | ⟨c1, c2, c3⟩
            · refine br_t (by rw [cm]; exact c1) ⟨im, fun y7 f7 => K _ _ ?_ ?_⟩
              · unfold ml_eff; rw [if_neg hne, if_pos z, e6, cm, c2]
              · unfold ml_eff; rw [if_neg hne, if_pos z, f7, cm, c3]
            · refine br_f (by rw [cm, c1]; decide) ⟨im, fun y7 f7 => K _ _ ?_ ?_⟩
              · unfold ml_eff; rw [if_neg hne, if_pos z, f7, cm, c2]
              · unfold ml_eff; rw [if_neg hne, if_pos z, e7, cm, c3]
          · refine K _ _ ?_ ?_
            · unfold ml_eff; rw [if_neg hne, if_neg z, e6]
            · unfold ml_eff; rw [if_neg hne, if_neg z, e7]
theorem my_run (post : SY → Prop) (mu : Int32) (hmu : mu = -1 ∨ ∃ m : Nat, m < 24 ∧ mu = nI m ∧ ml_Mu ic op cc pl mo mk co ch m) (hi : ic ≤ 12) (hA : ∀ p, p < ic → ∃ a, a < 4 ∧ ra p = nI a) (hB : ∀ p, p < ic → ∃ b, b < 4 ∧ rb p = nI b) (x y : Int32)
    (H : ∀ w, (ml_E ic op ra rb cc pl mo mk mu x y = 1 → w 0 = ml_O ic op ra rb cc pl mo mk mu x y) → post (nI ic, nI tc, nI mc, ml_E ic op ra rb cc pl mo mk mu x y, ml_L ic op ra rb cc pl mo mk mu x y, op, ra, rb, cc, tx, ty, te, ex, pl, co, ch, w)) : wpY_run post (nI ic, nI tc, nI mc, ye, yl, op, ra, rb, cc, tx, ty, te, ex, pl, co, ch, yr) mu x y := by
  intro r1 e1 r2 e2 r3 e3 r4 e4
  subst e1 e2 e3 e4
  refine ⟨101, ?_⟩
  refine my_loop post mu hmu hi hA hB 100 101 0 (ml_r0 x y) 0 0 _ (by decide) rfl (mx_r0 yr x y) ?_
  intro w hw
  refine H w fun hE => ?_
  have e0 := hw 0 (by decide)
  unfold ml_O
  by_cases hout : (ml_fin ic op ra rb cc pl mo mk mu x y).1 < 0 ∨ nI ic ≤ (ml_fin ic op ra rb cc pl mo mk mu x y).1
  · rw [if_pos hout]; exact e0
  · unfold ml_E at hE
    rw [if_neg hout] at hE
    exact absurd hE (by decide)
end
