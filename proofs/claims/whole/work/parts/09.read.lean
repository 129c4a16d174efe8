/-! the methods that answer -/
theorem i_vc_passes {k : Nat} {u : SX} {v : SY} (I : i_Rel k u v) (hk : k + 4 ≤ 2048) (v1 : Int32) : wpX_passes (fun r u' => wpY_passes (fun r' v' => r' = r ∧ i_Rel (k + 4) u' v') v v1) u v1 := by
  obtain ⟨ic, tc, mc, op, ra, rb, cc, tx, ty, te, eo, ex, pl, mo, mk, co, ch, re, ro, rl, ye, yl, rg, km, yr, rfl, rfl, R⟩ := I
  have ht6 := R.2.1
  by_cases h0 : v1 < 0
  · exact br_t h0 (br_t rfl (br_t h0 (br_f (by decide) ⟨rfl, ml_mk R⟩)))
  · rcases pk_ix v1 (n := tc) (by omega) with h | h1 | ⟨t, ht, rfl⟩
    · exact absurd h h0
    · exact br_f h0 (br_t h1 (br_t rfl (br_f h0 (br_f (Int32.not_lt.mpr h1) (br_f (by decide) ⟨rfl, ml_mk R⟩)))))
    · refine br_f h0 (br_f (nI_ge ht (by omega)) (br_f (by decide) ?_))
      refine mx_meets _ (-1) (Or.inl rfl) R.1 t (by omega) fun re ro rl rg => ?_
      refine br_c (fun z => ?_) (fun z => ?_)
      · refine br_f h0 (br_t (nI_lt ht (by omega)) (br_t rfl ?_))
        refine my_ok (mo := mo) (mk := mk) (eo := eo) _ (-1) (Or.inl rfl) R.1 t (by omega) (R.2.2.2.1 t ht) fun ye yl yr => ?_
        exact br_t z ⟨rfl, ml_mk R⟩
      · refine br_f h0 (br_t (nI_lt ht (by omega)) (br_t rfl ?_))
        refine my_ok (mo := mo) (mk := mk) (eo := eo) _ (-1) (Or.inl rfl) R.1 t (by omega) (R.2.2.2.1 t ht) fun ye yl yr => ?_
        exact br_f z ⟨rfl, ml_mk R⟩
theorem i_vc_killers {k : Nat} {u : SX} {v : SY} (I : i_Rel k u v) (hk : k + 4 ≤ 2048) (v1 : Int32) : wpX_killers (fun r u' => wpY_killers (fun r' v' => r' = r ∧ i_Rel (k + 4) u' v') v v1) u v1 := by
  obtain ⟨ic, tc, mc, op, ra, rb, cc, tx, ty, te, eo, ex, pl, mo, mk, co, ch, re, ro, rl, ye, yl, rg, km, yr, rfl, rfl, R⟩ := I
  have hm24 := R.2.2.1
  by_cases h0 : v1 < 0
  · exact br_t h0 (br_t rfl (br_t h0 (br_f (by decide) ⟨rfl, ml_mk R⟩)))
  · rcases pk_ix v1 (n := mc) (by omega) with h | h1 | ⟨m, hm, rfl⟩
    · exact absurd h h0
    · exact br_f h0 (br_t h1 (br_t rfl (br_f h0 (br_f (Int32.not_lt.mpr h1) (br_f (by decide) ⟨rfl, ml_mk R⟩)))))
    · refine br_f h0 (br_f (nI_ge hm (by omega)) (br_f (by decide) ?_))
      refine mx_kil _ m (by omega) R.1 R.2.1 fun re ro rl rg => ?_
      refine my_kil (mo := mo) (mk := mk) (eo := eo) _ m hm hm24 (R.2.2.2.2 m hm) R.1 R.2.1 R.2.2.2.1 fun ye yl yr => ?_
      exact ⟨rfl, ml_mk R⟩
theorem i_vc_killed {k : Nat} {u : SX} {v : SY} (I : i_Rel k u v) (hk : k + 4 ≤ 2048) (v1 : Int32) : wpX_killed (fun r u' => wpY_killed (fun r' v' => r' = r ∧ i_Rel (k + 4) u' v') v v1) u v1 := by
  obtain ⟨ic, tc, mc, op, ra, rb, cc, tx, ty, te, eo, ex, pl, mo, mk, co, ch, re, ro, rl, ye, yl, rg, km, yr, rfl, rfl, R⟩ := I
  have hm24 := R.2.2.1
  refine ⟨mc + 1, mx_killedL _ v1 R.1 R.2.1 hm24 ?_ mc (mc + 1) 0 re ro rl rg (by omega) (by omega)⟩
  intro re ro rl rg
  refine ⟨mc + 1, my_killedL (mo := mo) (mk := mk) (eo := eo) _ v1 R.1 R.2.1 hm24 R.2.2.2.1 R.2.2.2.2 ?_ mc (mc + 1) 0 ye yl yr (by omega) (by omega)⟩
  intro ye yl yr
  exact ⟨rfl, ml_mk R⟩
theorem i_vc_output {k : Nat} {u : SX} {v : SY} (I : i_Rel k u v) (hk : k + 4 ≤ 2048) (v1 : Int32) (v2 : Int32) : wpX_output (fun r u' => wpY_output (fun r' v' => r' = r ∧ i_Rel (k + 4) u' v') v v1 v2) u v1 v2 := by
  obtain ⟨ic, tc, mc, op, ra, rb, cc, tx, ty, te, eo, ex, pl, mo, mk, co, ch, re, ro, rl, ye, yl, rg, km, yr, rfl, rfl, R⟩ := I
  have hm24 := R.2.2.1
  have ht6 := R.2.1
  by_cases h0 : v1 < 0
  · exact br_t h0 (br_t rfl (br_t h0 (br_f (by decide) ⟨rfl, ml_mk R⟩)))
  · rcases pk_ix v1 (n := mc) (by omega) with h | h1 | ⟨m, hm, rfl⟩
    · exact absurd h h0
    · exact br_f h0 (br_t h1 (br_t rfl (br_f h0 (br_f (Int32.not_lt.mpr h1) (br_f (by decide) ⟨rfl, ml_mk R⟩)))))
    · refine br_f h0 (br_f (nI_ge hm (by omega)) (br_f (by decide) ?_))
      have m2 : nI m < nI mc := nI_lt hm (by omega)
      by_cases g0 : v2 < 0
      · exact br_t g0 (br_t rfl (br_f h0 (br_t m2 (br_t rfl (br_t g0 (br_f (by decide) ⟨rfl, ml_mk R⟩))))))
      · rcases pk_ix v2 (n := tc) (by omega) with h | g1 | ⟨t, ht, rfl⟩
        · exact absurd h g0
        · exact br_f g0 (br_t g1 (br_t rfl (br_f h0 (br_t m2 (br_t rfl (br_f g0 (br_f (Int32.not_lt.mpr g1) (br_f (by decide) ⟨rfl, ml_mk R⟩))))))))
        · have it : vp_in (nI t) 6 := vp_in_nI (by omega) (by decide)
          have ct : (nI t).toNatClampNeg = t := nI_clamp (by omega)
          refine br_f g0 (br_f (nI_ge ht (by omega)) (br_f (by decide) ⟨it, it, ?_⟩))
          rw [ct]
          refine mx_run _ (nI m) (Or.inr ⟨m, by omega, rfl⟩) R.1.1 R.1.2.1 R.1.2.2 (tx t) (ty t) fun w => ?_
          refine br_f h0 (br_t m2 (br_t rfl (br_f g0 (br_t (nI_lt ht (by omega)) (br_t rfl ⟨it, it, ?_⟩)))))
          rw [ct]
          refine my_run (mo := mo) (mk := mk) _ (nI m) (Or.inr ⟨m, by omega, rfl, R.2.2.2.2 m hm⟩) R.1.1 R.1.2.1 R.1.2.2 (tx t) (ty t) fun w' hw' => ?_
          rcases ml_E01 ic op ra rb cc pl mo mk (nI m) (tx t) (ty t) with ⟨e, o⟩ | e
          · exact br_t e ⟨o.symm, ml_mk R⟩
          · exact br_f (by rw [e]; decide) ⟨hw' e, ml_mk R⟩
theorem i_vc_length {k : Nat} {u : SX} {v : SY} (I : i_Rel k u v) (hk : k + 4 ≤ 2048) (v1 : Int32) (v2 : Int32) : wpX_length (fun r u' => wpY_length (fun r' v' => r' = r ∧ i_Rel (k + 4) u' v') v v1 v2) u v1 v2 := by
  obtain ⟨ic, tc, mc, op, ra, rb, cc, tx, ty, te, eo, ex, pl, mo, mk, co, ch, re, ro, rl, ye, yl, rg, km, yr, rfl, rfl, R⟩ := I
  have hm24 := R.2.2.1
  have ht6 := R.2.1
  by_cases h0 : v1 < 0
  · exact br_t h0 (br_t rfl (br_t h0 (br_f (by decide) ⟨rfl, ml_mk R⟩)))
  · rcases pk_ix v1 (n := mc) (by omega) with h | h1 | ⟨m, hm, rfl⟩
    · exact absurd h h0
    · exact br_f h0 (br_t h1 (br_t rfl (br_f h0 (br_f (Int32.not_lt.mpr h1) (br_f (by decide) ⟨rfl, ml_mk R⟩)))))
    · refine br_f h0 (br_f (nI_ge hm (by omega)) (br_f (by decide) ?_))
      have m2 : nI m < nI mc := nI_lt hm (by omega)
      by_cases g0 : v2 < 0
      · exact br_t g0 (br_t rfl (br_f h0 (br_t m2 (br_t rfl (br_t g0 (br_f (by decide) ⟨rfl, ml_mk R⟩))))))
      · rcases pk_ix v2 (n := tc) (by omega) with h | g1 | ⟨t, ht, rfl⟩
        · exact absurd h g0
        · exact br_f g0 (br_t g1 (br_t rfl (br_f h0 (br_t m2 (br_t rfl (br_f g0 (br_f (Int32.not_lt.mpr g1) (br_f (by decide) ⟨rfl, ml_mk R⟩))))))))
        · have it : vp_in (nI t) 6 := vp_in_nI (by omega) (by decide)
          have ct : (nI t).toNatClampNeg = t := nI_clamp (by omega)
          refine br_f g0 (br_f (nI_ge ht (by omega)) (br_f (by decide) ⟨it, it, ?_⟩))
          rw [ct]
          refine mx_run _ (nI m) (Or.inr ⟨m, by omega, rfl⟩) R.1.1 R.1.2.1 R.1.2.2 (tx t) (ty t) fun w => ?_
          refine br_f h0 (br_t m2 (br_t rfl (br_f g0 (br_t (nI_lt ht (by omega)) (br_t rfl ⟨it, it, ?_⟩)))))
          rw [ct]
          refine my_run (mo := mo) (mk := mk) _ (nI m) (Or.inr ⟨m, by omega, rfl, R.2.2.2.2 m hm⟩) R.1.1 R.1.2.1 R.1.2.2 (tx t) (ty t) fun w' hw' => ?_
          exact ⟨rfl, ml_mk R⟩
theorem i_vc_enough {k : Nat} {u : SX} {v : SY} (I : i_Rel k u v) (hk : k + 4 ≤ 2048) : wpX_enough (fun r u' => wpY_enough (fun r' v' => r' = r ∧ i_Rel (k + 4) u' v') v) u := by
  obtain ⟨ic, tc, mc, op, ra, rb, cc, tx, ty, te, eo, ex, pl, mo, mk, co, ch, re, ro, rl, ye, yl, rg, km, yr, rfl, rfl, R⟩ := I
  have hm24 := R.2.2.1
  refine ⟨mc + 1, mx_fillL _ R.1 R.2.1 hm24 ?_ mc (mc + 1) 0 re ro rl rg km (by omega) (by omega) (fun j hj => absurd hj (by omega))⟩
  intro re ro rl rg km
  refine ⟨65, my_setsL (mo := mo) (mk := mk) (eo := eo) _ R.1 R.2.1 hm24 R.2.2.2.1 R.2.2.2.2 ?_ 64 65 0 ye yl yr rfl (by decide)⟩
  intro ye yl yr
  refine ⟨?_, ml_mk R⟩
  rw [ml_least (M := ml_M ic op ra rb cc pl mo mk tx ty te eo tc) R.2.1 (fun m _ => ml_mask_b _ tc R.2.1)]
theorem i_vc_same {k : Nat} {u : SX} {v : SY} (I : i_Rel k u v) (hk : k + 4 ≤ 2048) : wpX_same (fun r u' => wpY_same (fun r' v' => r' = r ∧ i_Rel (k + 4) u' v') v) u := by
  obtain ⟨ic, tc, mc, op, ra, rb, cc, tx, ty, te, eo, ex, pl, mo, mk, co, ch, re, ro, rl, ye, yl, rg, km, yr, rfl, rfl, R⟩ := I
  have hm24 := R.2.2.1
  refine ⟨mc + 1, mx_sameL _ R.1 R.2.1 hm24 ?_ mc (mc + 1) 0 re ro rl rg (by omega) (by omega)⟩
  intro re ro rl rg
  refine ⟨mc + 1, my_sameL (mo := mo) (mk := mk) _ R.1 R.2.1 hm24 R.2.2.2.2 ?_ mc (mc + 1) 0 ye yl yr (by omega) (by omega)⟩
  intro ye yl yr
  exact ⟨rfl, ml_mk R⟩
