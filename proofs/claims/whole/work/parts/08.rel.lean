/-! the relation, and the methods that store -/
def ml_R (ic tc mc : Nat) (op ra rb cc te eo ex pl mo mk co ch : Nat → Int32) : Prop :=
  ml_Pr ic ra rb ∧ tc ≤ 6 ∧ mc ≤ 24 ∧ (∀ t, t < tc → ml_Te te eo ex t) ∧ (∀ m, m < mc → ml_Mu ic op cc pl mo mk co ch m)
/-- counts, program and tests alike; an expected output as kept by the component is 0 where none is expected; a mutant's two copies say what its change says -/
def i_Rel (_ : Nat) (u : SX) (v : SY) : Prop :=
  ∃ (ic tc mc : Nat) (op ra rb cc tx ty te eo ex pl mo mk co ch : Nat → Int32) (re ro rl ye yl : Int32) (rg km yr : Nat → Int32),
    u = (nI ic, nI tc, nI mc, re, ro, rl, op, ra, rb, cc, tx, ty, te, eo, pl, mo, mk, rg, km) ∧ v = (nI ic, nI tc, nI mc, ye, yl, op, ra, rb, cc, tx, ty, te, ex, pl, co, ch, yr) ∧ ml_R ic tc mc op ra rb cc te eo ex pl mo mk co ch
theorem i_up {k : Nat} {u : SX} {v : SY} (h : i_Rel k u v) : i_Rel (k + 4) u v := h
section
variable {ic tc mc : Nat} {op ra rb cc tx ty te eo ex pl mo mk co ch : Nat → Int32} {re ro rl ye yl : Int32} {rg km yr : Nat → Int32}
theorem ml_mk {k : Nat} (R : ml_R ic tc mc op ra rb cc te eo ex pl mo mk co ch) : i_Rel k (nI ic, nI tc, nI mc, re, ro, rl, op, ra, rb, cc, tx, ty, te, eo, pl, mo, mk, rg, km) (nI ic, nI tc, nI mc, ye, yl, op, ra, rb, cc, tx, ty, te, ex, pl, co, ch, yr) :=
  ⟨ic, tc, mc, op, ra, rb, cc, tx, ty, te, eo, ex, pl, mo, mk, co, ch, re, ro, rl, ye, yl, rg, km, yr, rfl, rfl, R⟩
theorem ml_R0 : ml_R 0 0 0 op ra rb cc te eo ex pl mo mk co ch :=
  ⟨⟨by omega, fun p hp => absurd hp (by omega), fun p hp => absurd hp (by omega)⟩, by omega, by omega, fun t ht => absurd ht (by omega), fun m hm => absurd hm (by omega)⟩
theorem ml_clr (R : ml_R ic tc mc op ra rb cc te eo ex pl mo mk co ch) : ml_R ic 0 0 op ra rb cc te eo ex pl mo mk co ch :=
  ⟨R.1, by omega, by omega, fun t ht => absurd ht (by omega), fun m hm => absurd hm (by omega)⟩
theorem ml_Remit (R : ml_R ic tc mc op ra rb cc te eo ex pl mo mk co ch) (hi : ic < 12) (o g c : Int32) :
    ml_R (ic + 1) tc mc (upd op ic o) (upd ra ic (g &&& 3)) (upd rb ic ((g >>> ((2 : Int32) &&& 31)) &&& 3)) (upd cc ic c) te eo ex pl mo mk co ch := by
  obtain ⟨⟨h1, hA, hB⟩, h2, h3, hT, hM⟩ := R
  refine ⟨⟨by omega, fun p hp => ?_, fun p hp => ?_⟩, h2, h3, hT, fun m hm => ?_⟩
  · by_cases e : p = ic
    · subst e
      rw [pk_us]
      exact pk_andE g (m := 3) 2 (by decide)
    · rw [pk_un e]
      exact hA p (by omega)
  · by_cases e : p = ic
    · subst e
      rw [pk_us]
      exact pk_andE _ (m := 3) 2 (by decide)
    · rw [pk_un e]
      exact hB p (by omega)
  · obtain ⟨p, hp, e, h⟩ := hM m hm
    refine ⟨p, by omega, e, ?_⟩
    rw [pk_un (f := op) (show p ≠ ic by omega), pk_un (f := cc) (show p ≠ ic by omega)]
    exact h
theorem ml_Radd (R : ml_R ic tc mc op ra rb cc te eo ex pl mo mk co ch) (ht : tc < 6) (e o o' : Int32) (h : (e = 0 ∧ o = 0) ∨ (e = 1 ∧ o = o')) :
    ml_R ic (tc + 1) mc op ra rb cc (upd te tc e) (upd eo tc o) (upd ex tc o') pl mo mk co ch := by
  obtain ⟨hP, h2, h3, hT, hM⟩ := R
  refine ⟨hP, by omega, h3, fun t h => ?_, hM⟩
  unfold ml_Te
  by_cases z : t = tc
  · subst z
    rw [pk_us, pk_us, pk_us]
    assumption
  · rw [pk_un z, pk_un z, pk_un z]
    exact hT t (by omega)
theorem ml_Rmut (R : ml_R ic tc mc op ra rb cc te eo ex pl mo mk co ch) (hm : mc < 24) (p : Nat) (hp : p < ic) (o c f g : Int32) (h : (f = 0 ∧ o = op p ∧ c = g) ∨ (f = 1 ∧ o = g ∧ c = cc p)) :
    ml_R ic tc (mc + 1) op ra rb cc te eo ex (upd pl mc (nI p)) (upd mo mc o) (upd mk mc c) (upd co mc f) (upd ch mc g) := by
  obtain ⟨hP, h2, h3, hT, hM⟩ := R
  refine ⟨hP, h2, by omega, hT, fun m hm' => ?_⟩
  unfold ml_Mu
  by_cases z : m = mc
  · subst z
    rw [pk_us, pk_us, pk_us, pk_us, pk_us]
    exact ⟨p, hp, rfl, h⟩
  · rw [pk_un z, pk_un z, pk_un z, pk_un z, pk_un z]
    exact hM m (by omega)
theorem ml_nb {e : Int32} (h : e = 0 ∨ e = 1) : vp_nar .boolean e = e := by
  rcases h with rfl | rfl <;> rfl
theorem mx_add (post : Int32 → SX → Prop) (x y e o : Int32) (he : e = 0 ∨ e = 1) (ht : tc < 6)
    (H : post (nI tc) (nI ic, nI (tc + 1), nI mc, re, ro, rl, op, ra, rb, cc, upd tx tc x, upd ty tc y, upd te tc e, upd eo tc o, pl, mo, mk, rg, km)) : wpX_addTest post (nI ic, nI tc, nI mc, re, ro, rl, op, ra, rb, cc, tx, ty, te, eo, pl, mo, mk, rg, km) x y e o := by
  have it : vp_in (nI tc) 6 := vp_in_nI ht (by decide)
  have ct : (nI tc).toNatClampNeg = tc := nI_clamp (by omega)
  refine br_t (nI_lt (b := 6) ht (by decide)) ⟨it, fun a1 e1 => ⟨it, fun a2 e2 => ⟨it, fun a3 e3 => ⟨it, fun a4 e4 => fun f ef => ?_⟩⟩⟩⟩
  rw [ct] at e1 e2 e3 e4
  rw [ml_nb he] at e3
  rw [nI_1] at ef
  subst e1 e2 e3 e4 ef
  exact H
theorem mx_addF (post : Int32 → SX → Prop) (x y e o : Int32) (ht : tc = 6) (H : post (-2) (nI ic, nI tc, nI mc, re, ro, rl, op, ra, rb, cc, tx, ty, te, eo, pl, mo, mk, rg, km)) : wpX_addTest post (nI ic, nI tc, nI mc, re, ro, rl, op, ra, rb, cc, tx, ty, te, eo, pl, mo, mk, rg, km) x y e o := by
  subst ht
  exact br_f (by decide) H
theorem my_add (post : Int32 → SY → Prop) (x y e o : Int32) (he : e = 0 ∨ e = 1) (ht : tc < 6)
    (H : post (nI tc) (nI ic, nI (tc + 1), nI mc, ye, yl, op, ra, rb, cc, upd tx tc x, upd ty tc y, upd te tc e, upd ex tc o, pl, co, ch, yr)) : wpY_add post (nI ic, nI tc, nI mc, ye, yl, op, ra, rb, cc, tx, ty, te, ex, pl, co, ch, yr) x y e o := by
  have it : vp_in (nI tc) 6 := vp_in_nI ht (by decide)
  have ct : (nI tc).toNatClampNeg = tc := nI_clamp (by omega)
  refine ⟨it, fun a1 e1 => ⟨it, fun a2 e2 => ⟨it, fun a3 e3 => ⟨it, fun a4 e4 => fun f ef => ?_⟩⟩⟩⟩
  rw [ct] at e1 e2 e3 e4
  rw [ml_nb he] at e3
  rw [nI_1] at ef
  subst e1 e2 e3 e4 ef
  rw [nI_pred]
  exact H
theorem mx_mut (post : Int32 → SX → Prop) (p o c : Int32) (hm : mc < 24)
    (H : post (nI mc) (nI ic, nI tc, nI (mc + 1), re, ro, rl, op, ra, rb, cc, tx, ty, te, eo, upd pl mc p, upd mo mc o, upd mk mc c, rg, km)) : wpX_addMutant post (nI ic, nI tc, nI mc, re, ro, rl, op, ra, rb, cc, tx, ty, te, eo, pl, mo, mk, rg, km) p o c := by
  have im : vp_in (nI mc) 24 := vp_in_nI hm (by decide)
  have cm : (nI mc).toNatClampNeg = mc := nI_clamp (by omega)
  refine br_t (nI_lt (b := 24) hm (by decide)) ⟨im, fun a1 e1 => ⟨im, fun a2 e2 => ⟨im, fun a3 e3 => fun f ef => ?_⟩⟩⟩
  rw [cm] at e1 e2 e3
  rw [nI_1] at ef
  subst e1 e2 e3 ef
  exact H
theorem mx_mutF (post : Int32 → SX → Prop) (p o c : Int32) (hm : mc = 24) (H : post (-2) (nI ic, nI tc, nI mc, re, ro, rl, op, ra, rb, cc, tx, ty, te, eo, pl, mo, mk, rg, km)) : wpX_addMutant post (nI ic, nI tc, nI mc, re, ro, rl, op, ra, rb, cc, tx, ty, te, eo, pl, mo, mk, rg, km) p o c := by
  subst hm
  exact br_f (by decide) H
theorem my_mut (post : Int32 → SY → Prop) (p f g : Int32) (hf : f = 0 ∨ f = 1) (hm : mc < 24)
    (H : post (nI mc) (nI ic, nI tc, nI (mc + 1), ye, yl, op, ra, rb, cc, tx, ty, te, ex, upd pl mc p, upd co mc f, upd ch mc g, yr)) : wpY_mutate post (nI ic, nI tc, nI mc, ye, yl, op, ra, rb, cc, tx, ty, te, ex, pl, co, ch, yr) p f g := by
  have im : vp_in (nI mc) 24 := vp_in_nI hm (by decide)
  have cm : (nI mc).toNatClampNeg = mc := nI_clamp (by omega)
  have hne : ¬ nI mc = 24 := fun z => absurd ((nI_eq (a := mc) (b := 24) (by omega) (by decide)).mp z) (by omega)
  refine br_f hne ⟨im, fun a1 e1 => ⟨im, fun a2 e2 => ⟨im, fun a3 e3 => fun q eq => ?_⟩⟩⟩
  rw [cm] at e1 e2 e3
  rw [ml_nb hf] at e2
  rw [nI_1] at eq
  subst e1 e2 e3 eq
  rw [nI_pred]
  exact H
theorem my_mutF (post : Int32 → SY → Prop) (p f g : Int32) (hm : mc = 24) (H : post (-2) (nI ic, nI tc, nI mc, ye, yl, op, ra, rb, cc, tx, ty, te, ex, pl, co, ch, yr)) : wpY_mutate post (nI ic, nI tc, nI mc, ye, yl, op, ra, rb, cc, tx, ty, te, ex, pl, co, ch, yr) p f g := by
  subst hm
  exact br_t rfl H
end
theorem i_vc0 : wpX_init (fun u => wpY_init (fun v => i_Rel 0 u v)) :=
  ml_mk (k := 0) (ic := 0) (tc := 0) (mc := 0) (eo := fun _ => 0) (ex := fun _ => 0) ml_R0
theorem i_vc_emit {k : Nat} {u : SX} {v : SY} (I : i_Rel k u v) (hk : k + 4 ≤ 2048) (v1 : Int32) (v2 : Int32) (v3 : Int32) : wpX_emit (fun r u' => wpY_emit (fun r' v' => r' = r ∧ i_Rel (k + 4) u' v') v v1 v2 v3) u v1 v2 v3 := by
  obtain ⟨ic, tc, mc, op, ra, rb, cc, tx, ty, te, eo, ex, pl, mo, mk, co, ch, re, ro, rl, ye, yl, rg, km, yr, rfl, rfl, R⟩ := I
  by_cases h0 : v1 < 0
  · exact br_t h0 (br_t rfl (br_t h0 ⟨rfl, ml_mk R⟩))
  · by_cases h7 : 7 < v1
    · exact br_f h0 (br_t h7 (br_t rfl (br_f h0 (br_f (Int32.not_le.mpr h7) ⟨rfl, ml_mk R⟩))))
    · have h7' : v1 ≤ 7 := Int32.not_lt.mp h7
      have hle := R.1.1
      by_cases hi : ic < 12
      · have ii : vp_in (nI ic) 12 := vp_in_nI hi (by decide)
        have ci : (nI ic).toNatClampNeg = ic := nI_clamp (by omega)
        have hne : ¬ nI ic = 12 := fun z => absurd ((nI_eq (a := ic) (b := 12) (by omega) (by decide)).mp z) (by omega)
        refine br_f h0 (br_f h7 (br_f (by decide) (br_t (nI_lt (b := 12) hi (by decide)) ⟨ii, fun a1 e1 => ⟨ii, fun a2 e2 => ⟨ii, fun a3 e3 => ⟨ii, fun a4 e4 => fun f ef => ?_⟩⟩⟩⟩)))
        refine br_f h0 (br_t h7' (br_f hne ⟨ii, fun b1 g1 => ⟨ii, fun b2 g2 => ⟨ii, fun b3 g3 => ⟨ii, fun b4 g4 => fun f' ef' => ?_⟩⟩⟩⟩))
        rw [ci] at e1 e2 e3 e4 g1 g2 g3 g4
        rw [nI_1] at ef ef'
        subst e1 e2 e3 e4 ef g1 g2 g3 g4 ef'
        exact ⟨nI_pred ic, ml_mk (ml_Remit R hi v1 v2 v3)⟩
      · have e12 : ic = 12 := by omega
        subst e12
        exact br_f h0 (br_f h7 (br_f (by decide) (br_f (by decide) (br_f h0 (br_t h7' (br_t rfl ⟨rfl, ml_mk R⟩))))))
theorem i_vc_test {k : Nat} {u : SX} {v : SY} (I : i_Rel k u v) (hk : k + 4 ≤ 2048) (v1 : Int32) (v2 : Int32) (v3 : Int32) : wpX_test (fun r u' => wpY_test (fun r' v' => r' = r ∧ i_Rel (k + 4) u' v') v v1 v2 v3) u v1 v2 v3 := by
  obtain ⟨ic, tc, mc, op, ra, rb, cc, tx, ty, te, eo, ex, pl, mo, mk, co, ch, re, ro, rl, ye, yl, rg, km, yr, rfl, rfl, R⟩ := I
  have hle := R.2.1
  unfold wpX_test
  by_cases ht : tc < 6
  · have hne : ¬ nI tc = 6 := fun z => absurd ((nI_eq (a := tc) (b := 6) (by omega) (by decide)).mp z) (by omega)
    refine mx_add _ v1 v2 1 v3 (Or.inr rfl) ht ?_
    refine br_f hne ?_
    refine my_add _ v1 v2 1 v3 (Or.inr rfl) ht ?_
    exact ⟨rfl, ml_mk (ml_Radd R ht 1 v3 v3 (Or.inr ⟨rfl, rfl⟩))⟩
  · have e6 : tc = 6 := by omega
    refine mx_addF _ v1 v2 1 v3 e6 ?_
    subst e6
    exact br_t rfl ⟨rfl, ml_mk R⟩
theorem i_vc_snapshotTest {k : Nat} {u : SX} {v : SY} (I : i_Rel k u v) (hk : k + 4 ≤ 2048) (v1 : Int32) (v2 : Int32) : wpX_snapshotTest (fun r u' => wpY_snapshotTest (fun r' v' => r' = r ∧ i_Rel (k + 4) u' v') v v1 v2) u v1 v2 := by
  obtain ⟨ic, tc, mc, op, ra, rb, cc, tx, ty, te, eo, ex, pl, mo, mk, co, ch, re, ro, rl, ye, yl, rg, km, yr, rfl, rfl, R⟩ := I
  have hle := R.2.1
  have hP := R.1
  unfold wpX_snapshotTest
  refine mx_run _ (-1) (Or.inl rfl) hP.1 hP.2.1 hP.2.2 v1 v2 fun w => ?_
  have h01 := ml_E01 ic op ra rb cc pl mo mk (-1) v1 v2
  have he : ml_E ic op ra rb cc pl mo mk (-1) v1 v2 = 0 ∨ ml_E ic op ra rb cc pl mo mk (-1) v1 v2 = 1 := h01.elim (fun h => Or.inl h.1) Or.inr
  by_cases ht : tc < 6
  · have hne : ¬ nI tc = 6 := fun z => absurd ((nI_eq (a := tc) (b := 6) (by omega) (by decide)).mp z) (by omega)
    refine mx_add _ v1 v2 _ _ he ht ?_
    refine br_f hne ?_
    refine my_run (mo := mo) (mk := mk) _ (-1) (Or.inl rfl) hP.1 hP.2.1 hP.2.2 v1 v2 fun w' hw' => ?_
    refine my_add _ v1 v2 _ _ he ht ?_
    refine ⟨rfl, ml_mk (ml_Radd R ht _ _ _ ?_)⟩
    rcases h01 with h | h
    · exact Or.inl h
    · exact Or.inr ⟨h, (hw' h).symm⟩
  · have e6 : tc = 6 := by omega
    refine mx_addF _ v1 v2 _ _ e6 ?_
    subst e6
    exact br_t rfl ⟨rfl, ml_mk R⟩
theorem i_vc_mutateOp {k : Nat} {u : SX} {v : SY} (I : i_Rel k u v) (hk : k + 4 ≤ 2048) (v1 : Int32) (v2 : Int32) : wpX_mutateOp (fun r u' => wpY_mutateOp (fun r' v' => r' = r ∧ i_Rel (k + 4) u' v') v v1 v2) u v1 v2 := by
  obtain ⟨ic, tc, mc, op, ra, rb, cc, tx, ty, te, eo, ex, pl, mo, mk, co, ch, re, ro, rl, ye, yl, rg, km, yr, rfl, rfl, R⟩ := I
  have hi := R.1.1
  have hle := R.2.2.1
  rcases pk_ix v1 (n := ic) (by omega) with h0 | h1 | ⟨p, hp, rfl⟩
  · exact br_t h0 (br_t rfl (br_t h0 ⟨rfl, ml_mk R⟩))
  · by_cases h0 : v1 < 0
    · exact br_t h0 (br_t rfl (br_t h0 ⟨rfl, ml_mk R⟩))
    · exact br_f h0 (br_t h1 (br_t rfl (br_f h0 (br_f (Int32.not_lt.mpr h1) ⟨rfl, ml_mk R⟩))))
  · have p0 : ¬ nI p < 0 := nI_pos (by omega)
    have p1 : ¬ nI ic ≤ nI p := nI_ge hp (by omega)
    have p2 : nI p < nI ic := nI_lt hp (by omega)
    have ip : vp_in (nI p) 12 := vp_in_nI (by omega) (by decide)
    have cp : (nI p).toNatClampNeg = p := nI_clamp (by omega)
    refine br_f p0 (br_f p1 (br_f (by decide) ?_))
    by_cases h0 : v2 < 0
    · exact br_t h0 (br_t rfl (br_f p0 (br_t p2 (br_t h0 ⟨rfl, ml_mk R⟩))))
    · by_cases h7 : 7 < v2
      · exact br_f h0 (br_t h7 (br_t rfl (br_f p0 (br_t p2 (br_f h0 (br_f (Int32.not_le.mpr h7) ⟨rfl, ml_mk R⟩))))))
      · have h7' : v2 ≤ 7 := Int32.not_lt.mp h7
        refine br_f h0 (br_f h7 (br_f (by decide) ⟨ip, ?_⟩))
        by_cases hm : mc < 24
        · refine mx_mut _ (nI p) v2 _ hm ?_
          refine br_f p0 (br_t p2 (br_f h0 (br_t h7' ?_)))
          refine my_mut _ (nI p) 1 v2 (Or.inr rfl) hm ?_
          refine ⟨rfl, ml_mk (ml_Rmut R hm p hp v2 _ 1 v2 (Or.inr ⟨rfl, rfl, ?_⟩))⟩
          rw [cp]
        · have e24 : mc = 24 := by omega
          refine mx_mutF _ (nI p) v2 _ e24 ?_
          refine br_f p0 (br_t p2 (br_f h0 (br_t h7' ?_)))
          exact my_mutF _ (nI p) 1 v2 e24 ⟨rfl, ml_mk R⟩
theorem i_vc_mutateC {k : Nat} {u : SX} {v : SY} (I : i_Rel k u v) (hk : k + 4 ≤ 2048) (v1 : Int32) (v2 : Int32) : wpX_mutateC (fun r u' => wpY_mutateC (fun r' v' => r' = r ∧ i_Rel (k + 4) u' v') v v1 v2) u v1 v2 := by
  obtain ⟨ic, tc, mc, op, ra, rb, cc, tx, ty, te, eo, ex, pl, mo, mk, co, ch, re, ro, rl, ye, yl, rg, km, yr, rfl, rfl, R⟩ := I
  have hi := R.1.1
  have hle := R.2.2.1
  rcases pk_ix v1 (n := ic) (by omega) with h0 | h1 | ⟨p, hp, rfl⟩
  · exact br_t h0 (br_t rfl (br_t h0 ⟨rfl, ml_mk R⟩))
  · by_cases h0 : v1 < 0
    · exact br_t h0 (br_t rfl (br_t h0 ⟨rfl, ml_mk R⟩))
    · exact br_f h0 (br_t h1 (br_t rfl (br_f h0 (br_f (Int32.not_lt.mpr h1) ⟨rfl, ml_mk R⟩))))
  · have p0 : ¬ nI p < 0 := nI_pos (by omega)
    have p1 : ¬ nI ic ≤ nI p := nI_ge hp (by omega)
    have p2 : nI p < nI ic := nI_lt hp (by omega)
    have ip : vp_in (nI p) 12 := vp_in_nI (by omega) (by decide)
    have cp : (nI p).toNatClampNeg = p := nI_clamp (by omega)
    refine br_f p0 (br_f p1 (br_f (by decide) ⟨ip, ?_⟩))
    by_cases hm : mc < 24
    · refine mx_mut _ (nI p) _ v2 hm ?_
      refine br_f p0 (br_t p2 ?_)
      refine my_mut _ (nI p) 0 v2 (Or.inl rfl) hm ?_
      refine ⟨rfl, ml_mk (ml_Rmut R hm p hp _ v2 0 v2 (Or.inl ⟨rfl, ?_, rfl⟩))⟩
      rw [cp]
    · have e24 : mc = 24 := by omega
      refine mx_mutF _ (nI p) _ v2 e24 ?_
      refine br_f p0 (br_t p2 ?_)
      exact my_mutF _ (nI p) 0 v2 e24 ⟨rfl, ml_mk R⟩
theorem i_vc_clear {k : Nat} {u : SX} {v : SY} (I : i_Rel k u v) (hk : k + 4 ≤ 2048) : wpX_clear (fun u' => wpY_clear (fun v' => i_Rel (k + 4) u' v') v) u := by
  obtain ⟨ic, tc, mc, op, ra, rb, cc, tx, ty, te, eo, ex, pl, mo, mk, co, ch, re, ro, rl, ye, yl, rg, km, yr, rfl, rfl, R⟩ := I
  exact ml_mk (k := k + 4) (tc := 0) (mc := 0) (ml_clr R)
