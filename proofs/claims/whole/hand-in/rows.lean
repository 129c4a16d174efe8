section
theorem pk_us {f : Nat → Int32} {k : Nat} {x : Int32} : upd f k x k = x := if_pos rfl
theorem pk_un {f : Nat → Int32} {k j : Nat} {x : Int32} (h : j ≠ k) : upd f k x j = f j := if_neg h
theorem pk_sub {a b : Nat} (h : b ≤ a) : nI a - nI b = nI (a - b) := by
  obtain ⟨c, rfl⟩ : ∃ c, a = c + b := ⟨a - b, by omega⟩
  rw [← nI_add, Int32.add_sub_cancel, Nat.add_sub_cancel]
theorem pk_le {x y : Int32} {A B : Prop} (a b : Nat) (f : a ≤ b → A) (g : b < a → B) (hx : x = nI a := by rfl) (hy : y = nI b := by rfl) (ha : a < 2 ^ 31 := by omega) (hb : b < 2 ^ 31 := by omega) : (x ≤ y → A) ∧ (¬ x ≤ y → B) := by
  subst hx hy
  rw [nI_leI ha hb]
  exact ⟨f, fun z => g (by omega)⟩
theorem pk_lt {x y : Int32} {A B : Prop} (a b : Nat) (f : a < b → A) (g : b ≤ a → B) (hx : x = nI a := by rfl) (hy : y = nI b := by rfl) (ha : a < 2 ^ 31 := by omega) (hb : b < 2 ^ 31 := by omega) : (x < y → A) ∧ (¬ x < y → B) := by
  subst hx hy
  rw [nI_ltI ha hb]
  exact ⟨f, fun z => g (by omega)⟩
theorem pk_eq {x y : Int32} {A B : Prop} (a b : Nat) (f : a = b → A) (g : a ≠ b → B) (hx : x = nI a := by rfl) (hy : y = nI b := by rfl) (ha : a < 2 ^ 31 := by omega) (hb : b < 2 ^ 31 := by omega) : (x = y → A) ∧ (¬ x = y → B) := by
  subst hx hy
  rw [nI_eq ha hb]
  exact ⟨f, g⟩
theorem pk_in {x : Int32} (n N : Nat) (h : n < N) (hx : x = nI n := by rfl) (hN : N < 2 ^ 31 := by omega) : vp_in x N := by
  subst hx
  exact vp_in_nI h hN
theorem pk_cl {x : Int32} (n : Nat) (hx : x = nI n := by rfl) (h : n < 2 ^ 31 := by omega) : x.toNatClampNeg = n := by
  subst hx
  exact nI_clamp h
theorem pk_tn {n : Nat} (h : n < 2 ^ 32) : (nI n).toBitVec.toNat = n := Nat.mod_eq_of_lt h
theorem pk_and (x : Int32) {m : Int32} (k : Nat) (hm : m.toBitVec.toNat = 2 ^ k - 1) : x &&& m = nI (x.toBitVec.toNat % 2 ^ k) := by
  apply Int32.toBitVec_inj.mp
  apply BitVec.eq_of_toNat_eq
  rw [Int32.toBitVec_and, BitVec.toNat_and, hm, Nat.and_two_pow_sub_one_eq_mod]
  show _ = (BitVec.ofNat 32 _).toNat
  rw [BitVec.toNat_ofNat]
  exact (Nat.mod_eq_of_lt (Nat.lt_of_le_of_lt (Nat.mod_le _ _) x.toBitVec.isLt)).symm
theorem pk_andN {n : Nat} (h : n < 2 ^ 32) {m : Int32} (k : Nat) (hm : m.toBitVec.toNat = 2 ^ k - 1) : nI n &&& m = nI (n % 2 ^ k) := by
  rw [pk_and _ k hm, pk_tn h]
theorem pk_andE (x : Int32) {m : Int32} (k : Nat) (hm : m.toBitVec.toNat = 2 ^ k - 1) : ∃ j : Nat, j < 2 ^ k ∧ x &&& m = nI j := ⟨_, Nat.mod_lt _ (Nat.two_pow_pos k), pk_and x k hm⟩
theorem pk_andIn (x : Int32) {m : Int32} (k : Nat) (hm : m.toBitVec.toNat = 2 ^ k - 1) (hk : k ≤ 30) : vp_in (x &&& m) (2 ^ k) := by
  obtain ⟨j, hj, e⟩ := pk_andE x k hm
  rw [e]
  exact vp_in_nI hj (Nat.lt_of_le_of_lt (Nat.pow_le_pow_right (by decide) hk) (by decide))
theorem pk_shl (a s : Int32) (k : Nat) (hs : (s.toBitVec.smod 32).toNat = k) : (a <<< s).toBitVec.toNat = a.toBitVec.toNat * 2 ^ k % 2 ^ 32 := by
  show (a.toBitVec <<< (s.toBitVec.smod 32).toNat).toNat = _
  rw [hs, BitVec.toNat_shiftLeft, Nat.shiftLeft_eq]
theorem pk_shlN {n : Nat} (s : Int32) (k : Nat) (hs : (s.toBitVec.smod 32).toNat = k) (h : n * 2 ^ k < 2 ^ 32) : nI n <<< s = nI (n * 2 ^ k) := by
  apply Int32.toBitVec_inj.mp
  apply BitVec.eq_of_toNat_eq
  have hn : n < 2 ^ 32 := Nat.lt_of_le_of_lt (Nat.le_mul_of_pos_right n (Nat.two_pow_pos k)) h
  rw [pk_shl _ _ k hs, pk_tn hn, pk_tn h, Nat.mod_eq_of_lt h]
theorem pk_shr (a s : Int32) (k : Nat) (hs : (s.toBitVec.smod 32).toNat = k) : (a >>> s).toInt = a.toInt >>> k := by
  show (a.toBitVec.sshiftRight (s.toBitVec.smod 32).toNat).toInt = _
  rw [hs, BitVec.toInt_sshiftRight]
  rfl
theorem pk_shrN {n : Nat} (h : n < 2 ^ 31) (s : Int32) (k : Nat) (hs : (s.toBitVec.smod 32).toNat = k) : nI n >>> s = nI (n / 2 ^ k) := by
  apply Int32.toInt_inj.mp
  have h2 : n / 2 ^ k ≤ n := Nat.div_le_self _ _
  rw [pk_shr _ _ k hs, nI_toInt h, nI_toInt (by omega), Int.shiftRight_eq_div_pow]
  rfl
theorem nx_and (a b : Nat) : nI a &&& nI b = nI (a &&& b) := by
  apply Int32.toBitVec_inj.1
  show BitVec.ofNat 32 a &&& BitVec.ofNat 32 b = BitVec.ofNat 32 (a &&& b)
  apply BitVec.eq_of_getLsbD_eq
  intro i hi
  simp [hi]
theorem s_l : ∀ n, n < 32 → ((nI n &&& 31).toBitVec.smod 32).toNat = n := by decide +kernel
theorem pk_ix (x : Int32) {n : Nat} (hn : n < 2 ^ 31) : x < 0 ∨ nI n ≤ x ∨ ∃ j : Nat, j < n ∧ x = nI j := by
  by_cases h : x < 0
  · exact Or.inl h
  · obtain ⟨j, hj, rfl⟩ := nI_of h
    by_cases h2 : j < n
    · exact Or.inr (Or.inr ⟨j, h2, rfl⟩)
    · exact Or.inr (Or.inl (nI_le (by omega) hj))
end
section
/-! the run as a pure function -/
def ml_next (o : Int32) (a b : Nat) (c : Int32) (p : Nat) (r : Nat → Int32) : Int32 :=
  if o = 5 then (if r b ≤ r a then nI (p + 1) else c) else if o = 6 then (if r a = 0 then c else nI (p + 1)) else nI (p + 1)
def ml_regs (o : Int32) (a b : Nat) (c : Int32) (r : Nat → Int32) : Nat → Int32 :=
  if o = 0 then upd r a c else if o = 1 then upd r a (r a + r b) else if o = 2 then upd r a (r a - r b) else if o = 3 then upd r a (r a * r b) else if o = 4 then upd r a (if r a ≤ r b then r a else r b) else if o = 5 then r else if o = 6 then r else upd r a (r a + c)
def ml_go (ic : Nat) (O C A B : Nat → Int32) : Nat → Int32 → (Nat → Int32) → Nat → Int32 × (Nat → Int32) × Nat
  | 0, p, r, s => (p, r, s)
  | d + 1, p, r, s => if p < 0 ∨ nI ic ≤ p then (p, r, s) else
      ml_go ic O C A B d (ml_next (O p.toNatClampNeg) (A p.toNatClampNeg).toNatClampNeg (B p.toNatClampNeg).toNatClampNeg (C p.toNatClampNeg) p.toNatClampNeg r) (ml_regs (O p.toNatClampNeg) (A p.toNatClampNeg).toNatClampNeg (B p.toNatClampNeg).toNatClampNeg (C p.toNatClampNeg) r) (s + 1)
def ml_eff (pl g f : Nat → Int32) (mu : Int32) : Nat → Int32 := fun p => if mu = -1 then f p else if pl mu.toNatClampNeg = nI p then g mu.toNatClampNeg else f p
def ml_r0 (x y : Int32) : Nat → Int32 := fun j => if j = 0 then x else if j = 1 then y else 0
def ml_fin (ic : Nat) (op ra rb cc pl mo mk : Nat → Int32) (mu x y : Int32) : Int32 × (Nat → Int32) × Nat :=
  ml_go ic (ml_eff pl mo op mu) (ml_eff pl mk cc mu) ra rb 100 0 (ml_r0 x y) 0
def ml_E (ic : Nat) (op ra rb cc pl mo mk : Nat → Int32) (mu x y : Int32) : Int32 :=
  if (ml_fin ic op ra rb cc pl mo mk mu x y).1 < 0 ∨ nI ic ≤ (ml_fin ic op ra rb cc pl mo mk mu x y).1 then 1 else 0
def ml_O (ic : Nat) (op ra rb cc pl mo mk : Nat → Int32) (mu x y : Int32) : Int32 :=
  if (ml_fin ic op ra rb cc pl mo mk mu x y).1 < 0 ∨ nI ic ≤ (ml_fin ic op ra rb cc pl mo mk mu x y).1 then (ml_fin ic op ra rb cc pl mo mk mu x y).2.1 0 else 0
def ml_L (ic : Nat) (op ra rb cc pl mo mk : Nat → Int32) (mu x y : Int32) : Int32 := nI (ml_fin ic op ra rb cc pl mo mk mu x y).2.2
def ml_ok (ic : Nat) (op ra rb cc pl mo mk tx ty te eo : Nat → Int32) (mu : Int32) (t : Nat) : Int32 :=
  if ml_E ic op ra rb cc pl mo mk mu (tx t) (ty t) = te t then (if ml_O ic op ra rb cc pl mo mk mu (tx t) (ty t) = eo t then 1 else 0) else 0
def ml_mask (f : Nat → Int32) : Nat → Int32
  | 0 => 0
  | t + 1 => if f t = 0 then ml_mask f t ||| ((1 : Int32) <<< (nI t &&& 31)) else ml_mask f t
def ml_M (ic : Nat) (op ra rb cc pl mo mk tx ty te eo : Nat → Int32) (tc : Nat) (m : Nat) : Int32 := ml_mask (ml_ok ic op ra rb cc pl mo mk tx ty te eo (nI m)) tc
theorem ml_E01 (ic : Nat) (op ra rb cc pl mo mk : Nat → Int32) (mu x y : Int32) : (ml_E ic op ra rb cc pl mo mk mu x y = 0 ∧ ml_O ic op ra rb cc pl mo mk mu x y = 0) ∨ ml_E ic op ra rb cc pl mo mk mu x y = 1 := by
  unfold ml_E ml_O
  by_cases h : (ml_fin ic op ra rb cc pl mo mk mu x y).1 < 0 ∨ nI ic ≤ (ml_fin ic op ra rb cc pl mo mk mu x y).1
  · right; rw [if_pos h]
  · left; rw [if_neg h, if_neg h]; exact ⟨rfl, rfl⟩
theorem ml_ok01 (ic : Nat) (op ra rb cc pl mo mk tx ty te eo : Nat → Int32) (mu : Int32) (t : Nat) : ml_ok ic op ra rb cc pl mo mk tx ty te eo mu t = 0 ∨ ml_ok ic op ra rb cc pl mo mk tx ty te eo mu t = 1 := by
  unfold ml_ok
  split
  · split
    · exact Or.inr rfl
    · exact Or.inl rfl
  · exact Or.inl rfl
/-! the step, code by code -/
theorem ml_ag {r s : Nat → Int32} {a : Nat} {v w : Int32} (h : ∀ j, j < 4 → s j = r j) (e : v = w) : ∀ j, j < 4 → upd s a v j = upd r a w j := by
  intro j hj
  unfold upd
  by_cases z : j = a
  · rw [if_pos z, if_pos z]; exact e
  · rw [if_neg z, if_neg z]; exact h j hj
theorem ml_codes (o : Int32) : (o < 0 ∨ 6 < o) ∨ o = 0 ∨ o = 1 ∨ o = 2 ∨ o = 3 ∨ o = 4 ∨ o = 5 ∨ o = 6 := by
  by_cases h0 : o < 0
  · exact Or.inl (Or.inl h0)
  · by_cases h6 : 6 < o
    · exact Or.inl (Or.inr h6)
    · right
      obtain ⟨j, hj, rfl⟩ := nI_of2 (M := 6) (n := 6) (by decide) h0 (Int32.not_lt.mp h6)
      match j, hj with
      | 0, _ => exact Or.inl rfl
      | 1, _ => exact Or.inr (Or.inl rfl)
      | 2, _ => exact Or.inr (Or.inr (Or.inl rfl))
      | 3, _ => exact Or.inr (Or.inr (Or.inr (Or.inl rfl)))
      | 4, _ => exact Or.inr (Or.inr (Or.inr (Or.inr (Or.inl rfl))))
      | 5, _ => exact Or.inr (Or.inr (Or.inr (Or.inr (Or.inr (Or.inl rfl)))))
      | 6, _ => exact Or.inr (Or.inr (Or.inr (Or.inr (Or.inr (Or.inr rfl)))))
      | (k + 7), hk => exact absurd hk (by omega)
theorem ml_ne {o k : Int32} (h : o < 0 ∨ 6 < o) (hk : ¬ (k < 0 ∨ 6 < k)) : ¬ o = k := fun e => hk (e ▸ h)
theorem ml_n0 (a b : Nat) (c : Int32) (p : Nat) (r : Nat → Int32) : ml_next 0 a b c p r = nI (p + 1) := by unfold ml_next; rw [if_neg (by decide), if_neg (by decide)]
theorem ml_n1 (a b : Nat) (c : Int32) (p : Nat) (r : Nat → Int32) : ml_next 1 a b c p r = nI (p + 1) := by unfold ml_next; rw [if_neg (by decide), if_neg (by decide)]
theorem ml_n2 (a b : Nat) (c : Int32) (p : Nat) (r : Nat → Int32) : ml_next 2 a b c p r = nI (p + 1) := by unfold ml_next; rw [if_neg (by decide), if_neg (by decide)]
theorem ml_n3 (a b : Nat) (c : Int32) (p : Nat) (r : Nat → Int32) : ml_next 3 a b c p r = nI (p + 1) := by unfold ml_next; rw [if_neg (by decide), if_neg (by decide)]
theorem ml_n4 (a b : Nat) (c : Int32) (p : Nat) (r : Nat → Int32) : ml_next 4 a b c p r = nI (p + 1) := by unfold ml_next; rw [if_neg (by decide), if_neg (by decide)]
theorem ml_n5 (a b : Nat) (c : Int32) (p : Nat) (r : Nat → Int32) : ml_next 5 a b c p r = if r b ≤ r a then nI (p + 1) else c := by unfold ml_next; rw [if_pos rfl]
theorem ml_n6 (a b : Nat) (c : Int32) (p : Nat) (r : Nat → Int32) : ml_next 6 a b c p r = if r a = 0 then c else nI (p + 1) := by unfold ml_next; rw [if_neg (by decide), if_pos rfl]
theorem ml_n7 {o : Int32} (h : o < 0 ∨ 6 < o) (a b : Nat) (c : Int32) (p : Nat) (r : Nat → Int32) : ml_next o a b c p r = nI (p + 1) := by unfold ml_next; rw [if_neg (ml_ne h (by decide)), if_neg (ml_ne h (by decide))]
theorem ml_r_0 (a b : Nat) (c : Int32) (r : Nat → Int32) : ml_regs 0 a b c r = upd r a c := by unfold ml_regs; rw [if_pos rfl]
theorem ml_r_1 (a b : Nat) (c : Int32) (r : Nat → Int32) : ml_regs 1 a b c r = upd r a (r a + r b) := by unfold ml_regs; rw [if_neg (by decide), if_pos rfl]
theorem ml_r_2 (a b : Nat) (c : Int32) (r : Nat → Int32) : ml_regs 2 a b c r = upd r a (r a - r b) := by unfold ml_regs; rw [if_neg (by decide), if_neg (by decide), if_pos rfl]
theorem ml_r_3 (a b : Nat) (c : Int32) (r : Nat → Int32) : ml_regs 3 a b c r = upd r a (r a * r b) := by unfold ml_regs; rw [if_neg (by decide), if_neg (by decide), if_neg (by decide), if_pos rfl]
theorem ml_r_4 (a b : Nat) (c : Int32) (r : Nat → Int32) : ml_regs 4 a b c r = upd r a (if r a ≤ r b then r a else r b) := by unfold ml_regs; rw [if_neg (by decide), if_neg (by decide), if_neg (by decide), if_neg (by decide), if_pos rfl]
theorem ml_r_5 (a b : Nat) (c : Int32) (r : Nat → Int32) : ml_regs 5 a b c r = r := by unfold ml_regs; rw [if_neg (by decide), if_neg (by decide), if_neg (by decide), if_neg (by decide), if_neg (by decide), if_pos rfl]
theorem ml_r_6 (a b : Nat) (c : Int32) (r : Nat → Int32) : ml_regs 6 a b c r = r := by unfold ml_regs; rw [if_neg (by decide), if_neg (by decide), if_neg (by decide), if_neg (by decide), if_neg (by decide), if_neg (by decide), if_pos rfl]
theorem ml_r_7 {o : Int32} (h : o < 0 ∨ 6 < o) (a b : Nat) (c : Int32) (r : Nat → Int32) : ml_regs o a b c r = upd r a (r a + c) := by
  unfold ml_regs
  rw [if_neg (ml_ne h (by decide)), if_neg (ml_ne h (by decide)), if_neg (ml_ne h (by decide)), if_neg (ml_ne h (by decide)), if_neg (ml_ne h (by decide)), if_neg (ml_ne h (by decide)), if_neg (ml_ne h (by decide))]
theorem ml_go0 (ic : Nat) (O C A B : Nat → Int32) (p : Int32) (r : Nat → Int32) (s : Nat) : ml_go ic O C A B 0 p r s = (p, r, s) := rfl
theorem ml_goOut (ic : Nat) (O C A B : Nat → Int32) (d : Nat) (p : Int32) (r : Nat → Int32) (s : Nat) (h : p < 0 ∨ nI ic ≤ p) : ml_go ic O C A B d p r s = (p, r, s) := by
  cases d with
  | zero => rfl
  | succ d => unfold ml_go; rw [if_pos h]
theorem ml_goIn (ic : Nat) (O C A B : Nat → Int32) (d q a b : Nat) (r : Nat → Int32) (s : Nat) (hq : q < ic) (hi : ic ≤ 12) (ha : a < 4) (hb : b < 4) (ea : A q = nI a) (eb : B q = nI b) :
    ml_go ic O C A B (d + 1) (nI q) r s = ml_go ic O C A B d (ml_next (O q) a b (C q) q r) (ml_regs (O q) a b (C q) r) (s + 1) := by
  have h : ¬ (nI q < 0 ∨ nI ic ≤ nI q) := by
    intro z
    rcases z with z | z
    · exact nI_pos (by omega) z
    · exact nI_ge hq (by omega) z
  rw [ml_go, if_neg h, nI_clamp (n := q) (by omega), ea, eb, nI_clamp (n := a) (by omega), nI_clamp (n := b) (by omega)]
end
section
/-! run on the component's side -/
section
variable {ic tc mc : Nat} {op ra rb cc tx ty te eo ex pl mo mk co ch : Nat → Int32} {re ro rl ye yl : Int32} {rg km yr : Nat → Int32}
theorem mx_carry (post : Int32 → SX → Prop) (p a b : Nat) (hp : p < 12) (ha : a < 4) (hb : b < 4) (ea : ra p = nI a) (eb : rb p = nI b) (o c : Int32) (r : Nat → Int32) (hr : ∀ j, j < 4 → rg j = r j)
    (H : ∀ s, (∀ j, j < 4 → s j = ml_regs o a b c r j) → post (ml_next o a b c p r) (nI ic, nI tc, nI mc, re, ro, rl, op, ra, rb, cc, tx, ty, te, eo, pl, mo, mk, s, km)) : wpX_carryOut post (nI ic, nI tc, nI mc, re, ro, rl, op, ra, rb, cc, tx, ty, te, eo, pl, mo, mk, rg, km) (nI p) o c := by
  have hc : (nI p).toNatClampNeg = p := nI_clamp (by omega)
  have hca : (nI a).toNatClampNeg = a := nI_clamp (by omega)
  have hcb : (nI b).toNatClampNeg = b := nI_clamp (by omega)
  have ia : vp_in (nI a) 4 := vp_in_nI ha (by decide)
  have ib : vp_in (nI b) 4 := vp_in_nI hb (by decide)
  have ip : vp_in (nI p) 12 := vp_in_nI hp (by decide)
  have ga : rg a = r a := hr a ha
  have gb : rg b = r b := hr b hb
  refine ⟨ip, fun x4 e4 => ⟨ip, fun x5 e5 x6 e6 => ?_⟩⟩
  rw [hc, ea] at e4
  rw [hc, eb] at e5
  rw [nI_1] at e6
  subst e4 e5 e6
  rw [hca, hcb]
  rcases ml_codes o with h | rfl | rfl | rfl | rfl | rfl | rfl | rfl
  · rw [ml_n7 h, ml_r_7 h] at H
    have K : ∀ s, s = upd rg a (rg a + c) → post (nI (p + 1)) (nI ic, nI tc, nI mc, re, ro, rl, op, ra, rb, cc, tx, ty, te, eo, pl, mo, mk, s, km) := fun s es => H s (es ▸ ml_ag hr (by rw [ga]))
    by_cases h0 : o < 0
    · exact br_t h0 ⟨ia, ia, K⟩
    · have h6 : 6 < o := h.resolve_left h0
      exact br_f h0 (br_t h6 ⟨ia, ia, K⟩)
  · rw [ml_n0, ml_r_0] at H
    exact br_f (by decide) (br_f (by decide) (br_t rfl ⟨ia, fun s es => H s (es ▸ ml_ag hr rfl)⟩))
  · rw [ml_n1, ml_r_1] at H
    exact br_f (by decide) (br_f (by decide) (br_f (by decide) (br_t rfl ⟨ia, ib, ia, fun s es => H s (es ▸ ml_ag hr (by rw [ga, gb]))⟩)))
  · rw [ml_n2, ml_r_2] at H
    exact br_f (by decide) (br_f (by decide) (br_f (by decide) (br_f (by decide) (br_t rfl ⟨ia, ib, ia, fun s es => H s (es ▸ ml_ag hr (by rw [ga, gb]))⟩))))
  · rw [ml_n3, ml_r_3] at H
    exact br_f (by decide) (br_f (by decide) (br_f (by decide) (br_f (by decide) (br_f (by decide) (br_t rfl ⟨ia, ib, ia, fun s es => H s (es ▸ ml_ag hr (by rw [ga, gb]))⟩)))))
  · rw [ml_n4, ml_r_4] at H
    refine br_f (by decide) (br_f (by decide) (br_f (by decide) (br_f (by decide) (br_f (by decide) (br_f (by decide) (br_t rfl ⟨ib, ia, br_c (fun z => ⟨ia, ia, fun s es => H s (es ▸ ml_ag hr ?_)⟩) (fun z => ⟨ib, ia, fun s es => H s (es ▸ ml_ag hr ?_)⟩)⟩))))))
    · rw [ga, gb] at z
      rw [if_pos z, ga]
    · rw [ga, gb] at z
      rw [if_neg z, gb]
  · rw [ml_n5, ml_r_5] at H
    refine br_f (by decide) (br_f (by decide) (br_f (by decide) (br_f (by decide) (br_f (by decide) (br_f (by decide) (br_f (by decide) (br_t rfl ⟨ia, ib, br_c (fun z => ?_) (fun z => ?_)⟩)))))))
    · rw [ga, gb] at z
      have K := H rg hr
      rw [if_pos z] at K
      exact K
    · rw [ga, gb] at z
      have K := H rg hr
      rw [if_neg z] at K
      exact K
  · rw [ml_n6, ml_r_6] at H
    refine br_f (by decide) (br_f (by decide) (br_f (by decide) (br_f (by decide) (br_f (by decide) (br_f (by decide) (br_f (by decide) (br_f (by decide) (br_t rfl ⟨ia, br_c (fun z => ?_) (fun z => ?_)⟩))))))))
    · rw [ga] at z
      have K := H rg hr
      rw [if_pos z] at K
      exact K
    · rw [ga] at z
      have K := H rg hr
      rw [if_neg z] at K
      exact K
theorem mx_117 (post : SX → Prop) (J : Int32 → Int32 → Int32 → Int32 → Int32 → Int32 → Int32 → Int32 → (Nat → Int32) → (Nat → Int32) → (Nat → Int32) → (Nat → Int32) → (Nat → Int32) → (Nat → Int32) → (Nat → Int32) → (Nat → Int32) → (Nat → Int32) → (Nat → Int32) → (Nat → Int32) → (Nat → Int32) → (Nat → Int32) → Prop)
    (mu : Int32) (p s a b : Nat) (hp : p < 12) (ha : a < 4) (hb : b < 4) (ea : ra p = nI a) (eb : rb p = nI b) (o c : Int32) (r : Nat → Int32) (hr : ∀ j, j < 4 → rg j = r j)
    (H : ∀ w, (∀ j, j < 4 → w j = ml_regs o a b c r j) → J (ml_next o a b c p r) (nI (s + 1)) (nI ic) (nI tc) (nI mc) re ro rl op ra rb cc tx ty te eo pl mo mk w km) : wX_run_117 post J mu (nI p) (nI s) o c (nI ic) (nI tc) (nI mc) re ro rl op ra rb cc tx ty te eo pl mo mk rg km := by
  unfold wX_run_117
  refine mx_carry _ p a b hp ha hb ea eb o c r hr fun w hw => ?_
  intro x5 e5
  rw [nI_1] at e5
  subst e5
  exact H w hw
theorem mx_loop (post : SX → Prop) (mu : Int32) (hmu : mu = -1 ∨ ∃ m : Nat, m < 24 ∧ mu = nI m) (hi : ic ≤ 12) (hA : ∀ p, p < ic → ∃ a, a < 4 ∧ ra p = nI a) (hB : ∀ p, p < ic → ∃ b, b < 4 ∧ rb p = nI b) :
    ∀ (d n : Nat) (p : Int32) (r : Nat → Int32) (s : Nat) (rg : Nat → Int32), d < n → s + d = 100 → (∀ j, j < 4 → rg j = r j) →
    (∀ w, (∀ j, j < 4 → w j = (ml_go ic (ml_eff pl mo op mu) (ml_eff pl mk cc mu) ra rb d p r s).2.1 j) → wX_run_137 post (ml_go ic (ml_eff pl mo op mu) (ml_eff pl mk cc mu) ra rb d p r s).1 (nI (ml_go ic (ml_eff pl mo op mu) (ml_eff pl mk cc mu) ra rb d p r s).2.2) (nI ic) (nI tc) (nI mc) re ro rl op ra rb cc tx ty te eo pl mo mk w km) →
    wX_run_34 post mu n p (nI s) (nI ic) (nI tc) (nI mc) re ro rl op ra rb cc tx ty te eo pl mo mk rg km := by
  intro d
  induction d with
  | zero =>
    intro n p r s rg hn hs hr H
    obtain ⟨n, rfl⟩ : ∃ k, n = k + 1 := ⟨n - 1, by omega⟩
    have hs' : s = 100 := by omega
    subst hs'
    exact br_t (by decide) (H rg hr)
  | succ d ih =>
    intro n p r s rg hn hs hr H
    obtain ⟨n, rfl⟩ : ∃ k, n = k + 1 := ⟨n - 1, by omega⟩
    have h100 : ¬ (100 : Int32) ≤ nI s := nI_ge (b := 100) (by omega) (by decide)
    by_cases h0 : p < 0
    · rw [ml_goOut _ _ _ _ _ _ _ _ _ (Or.inl h0)] at H
      exact br_f h100 (br_t h0 (br_t rfl (H rg hr)))
    · by_cases h1 : nI ic ≤ p
      · rw [ml_goOut _ _ _ _ _ _ _ _ _ (Or.inr h1)] at H
        exact br_f h100 (br_f h0 (br_t h1 (br_t rfl (H rg hr))))
      · obtain ⟨q, hq, rfl⟩ := nI_of h0
        have hqi : q < ic := by
          rw [nI_leI (by omega) hq] at h1
          omega
        obtain ⟨a, ha, ea⟩ := hA q hqi
        obtain ⟨b, hb, eb⟩ := hB q hqi
        rw [ml_goIn ic _ _ ra rb d q a b r s hqi hi ha hb ea eb] at H
        have cq : (nI q).toNatClampNeg = q := nI_clamp (by omega)
        have iq : vp_in (nI q) 12 := vp_in_nI (by omega) (by decide)
        have K : ∀ o c : Int32, o = ml_eff pl mo op mu q → c = ml_eff pl mk cc mu q → wX_run_117 post (wX_run_34 post mu n) mu (nI q) (nI s) o c (nI ic) (nI tc) (nI mc) re ro rl op ra rb cc tx ty te eo pl mo mk rg km := by
          intro o c eo' ec'
          subst eo' ec'
          exact mx_117 post (wX_run_34 post mu n) mu q s a b (by omega) ha hb ea eb _ _ r hr fun w hw => ih n _ _ (s + 1) w (by omega) (by omega) hw H
        have K0 : op q = ml_eff pl mo op mu q → cc q = ml_eff pl mk cc mu q → wX_run_70 post (wX_run_34 post mu n) mu (nI q) (nI s) (nI ic) (nI tc) (nI mc) re ro rl op ra rb cc tx ty te eo pl mo mk rg km := by
          intro e1 e2
          refine br_t rfl ⟨iq, br_t rfl ⟨iq, ?_⟩⟩
          rw [cq]
          exact K _ _ e1 e2
        refine br_f h100 (br_f h0 (br_f h1 (br_f (by decide) ?_)))
        rcases hmu with hm | ⟨m, hm, em⟩
        · refine br_t hm (K0 ?_ ?_)
          · unfold ml_eff; rw [if_pos hm]
          · unfold ml_eff; rw [if_pos hm]
        · have hne : ¬ mu = -1 := by
            rw [em]
            intro z
            have := congrArg Int32.toInt z
            rw [nI_toInt (by omega), show (-1 : Int32).toInt = -1 from by decide] at this
            omega
          have im : vp_in mu 24 := by rw [em]; exact vp_in_nI hm (by decide)
          refine br_f hne ⟨im, br_c (fun z => ?_) (fun z => ?_)⟩
          · refine br_f (by decide) ⟨im, br_f (by decide) ⟨im, ?_⟩⟩
            refine K _ _ ?_ ?_
            · unfold ml_eff; rw [if_neg hne, if_pos z]
            · unfold ml_eff; rw [if_neg hne, if_pos z]
          · refine K0 ?_ ?_
            · unfold ml_eff; rw [if_neg hne, if_neg z]
            · unfold ml_eff; rw [if_neg hne, if_neg z]
theorem mx_r0 (f : Nat → Int32) (x y : Int32) : ∀ j, j < 4 → upd (upd (upd (upd f 0 x) 1 y) 2 0) 3 0 j = ml_r0 x y j := by
  intro j hj
  match j, hj with
  | 0, _ => rfl
  | 1, _ => rfl
  | 2, _ => rfl
  | 3, _ => rfl
  | (k + 4), hk => exact absurd hk (by omega)
theorem mx_run (post : SX → Prop) (mu : Int32) (hmu : mu = -1 ∨ ∃ m : Nat, m < 24 ∧ mu = nI m) (hi : ic ≤ 12) (hA : ∀ p, p < ic → ∃ a, a < 4 ∧ ra p = nI a) (hB : ∀ p, p < ic → ∃ b, b < 4 ∧ rb p = nI b) (x y : Int32)
    (H : ∀ w, post (nI ic, nI tc, nI mc, ml_E ic op ra rb cc pl mo mk mu x y, ml_O ic op ra rb cc pl mo mk mu x y, ml_L ic op ra rb cc pl mo mk mu x y, op, ra, rb, cc, tx, ty, te, eo, pl, mo, mk, w, km)) : wpX_run post (nI ic, nI tc, nI mc, re, ro, rl, op, ra, rb, cc, tx, ty, te, eo, pl, mo, mk, rg, km) mu x y := by
  intro r1 e1 r2 e2 r3 e3 r4 e4
  subst e1 e2 e3 e4
  refine ⟨101, ?_⟩
  refine mx_loop post mu hmu hi hA hB 100 101 0 (ml_r0 x y) 0 _ (by decide) rfl (mx_r0 rg x y) ?_
  intro w hw
  have K : ∀ z : Int32, z = ml_E ic op ra rb cc pl mo mk mu x y → (z = 0 ∨ z = 1) → wX_run_152 post (ml_L ic op ra rb cc pl mo mk mu x y) z (nI ic) (nI tc) (nI mc) re ro rl op ra rb cc tx ty te eo pl mo mk w km := by
    intro z ez hz
    have G := H w
    have e0 := hw 0 (by decide)
    have hN : narrow .boolean (.int z) = .int z := by rcases hz with rfl | rfl <;> rfl
    have hF : fits .boolean (.int z) = true := by rcases hz with rfl | rfl <;> decide
    refine ⟨hN, hF, ?_⟩
    by_cases hout : (ml_fin ic op ra rb cc pl mo mk mu x y).1 < 0 ∨ nI ic ≤ (ml_fin ic op ra rb cc pl mo mk mu x y).1
    · have hE : ml_E ic op ra rb cc pl mo mk mu x y = 1 := by unfold ml_E; rw [if_pos hout]
      have hO : ml_O ic op ra rb cc pl mo mk mu x y = w 0 := by unfold ml_O; rw [if_pos hout]; exact e0.symm
      rw [← ez, hO] at G
      refine br_f (by rw [ez, hE]; decide) fun q eq => ?_
      subst eq
      exact G
    · have hE : ml_E ic op ra rb cc pl mo mk mu x y = 0 := by unfold ml_E; rw [if_neg hout]
      have hO : ml_O ic op ra rb cc pl mo mk mu x y = 0 := by unfold ml_O; rw [if_neg hout]
      rw [← ez, hO] at G
      exact br_t (by rw [ez, hE]) G
  show wX_run_137 post (ml_fin ic op ra rb cc pl mo mk mu x y).1 (ml_L ic op ra rb cc pl mo mk mu x y) (nI ic) (nI tc) (nI mc) re ro rl op ra rb cc tx ty te eo pl mo mk w km
  by_cases h0 : (ml_fin ic op ra rb cc pl mo mk mu x y).1 < 0
  · exact br_t h0 (br_t rfl (K 1 (by unfold ml_E; rw [if_pos (Or.inl h0)]) (Or.inr rfl)))
  · by_cases h1 : nI ic ≤ (ml_fin ic op ra rb cc pl mo mk mu x y).1
    · exact br_f h0 (br_t h1 (br_t rfl (K 1 (by unfold ml_E; rw [if_pos (Or.inr h1)]) (Or.inr rfl))))
    · exact br_f h0 (br_f h1 (br_f (by decide) (K 0 (by unfold ml_E; rw [if_neg (fun z => z.elim h0 h1)]) (Or.inl rfl))))
end
end
section
/-! run on the reference's side -/
def ml_Mu (ic : Nat) (op cc pl mo mk co ch : Nat → Int32) (m : Nat) : Prop :=
  ∃ p, p < ic ∧ pl m = nI p ∧ ((co m = 0 ∧ mo m = op p ∧ mk m = ch m) ∨ (co m = 1 ∧ mo m = ch m ∧ mk m = cc p))
section
variable {ic tc mc : Nat} {op ra rb cc tx ty te eo ex pl mo mk co ch : Nat → Int32} {re ro rl ye yl : Int32} {rg km yr : Nat → Int32}
theorem my_carry (post : Int32 → SY → Prop) (p a b : Nat) (ha : a < 4) (hb : b < 4) (o c : Int32) (r : Nat → Int32) (hr : ∀ j, j < 4 → yr j = r j)
    (H : ∀ s, (∀ j, j < 4 → s j = ml_regs o a b c r j) → post (ml_next o a b c p r) (nI ic, nI tc, nI mc, ye, yl, op, ra, rb, cc, tx, ty, te, ex, pl, co, ch, s)) : wpY_carryOut post (nI ic, nI tc, nI mc, ye, yl, op, ra, rb, cc, tx, ty, te, ex, pl, co, ch, yr) o (nI a) (nI b) c (nI p) := by
  have hca : (nI a).toNatClampNeg = a := nI_clamp (by omega)
  have hcb : (nI b).toNatClampNeg = b := nI_clamp (by omega)
  have ia : vp_in (nI a) 4 := vp_in_nI ha (by decide)
  have ib : vp_in (nI b) 4 := vp_in_nI hb (by decide)
  have ga : yr a = r a := hr a ha
  have gb : yr b = r b := hr b hb
  unfold wpY_carryOut
  dsimp only
  rw [hca, hcb, nI_1 p]
  rcases ml_codes o with h | rfl | rfl | rfl | rfl | rfl | rfl | rfl
  · rw [ml_n7 h, ml_r_7 h] at H
    have K : ∀ s, s = upd yr a (yr a + c) → post (nI (p + 1)) (nI ic, nI tc, nI mc, ye, yl, op, ra, rb, cc, tx, ty, te, ex, pl, co, ch, s) := fun s es => H s (es ▸ ml_ag hr (by rw [ga]))
    exact br_f (ml_ne h (by decide)) (br_f (ml_ne h (by decide)) (br_f (ml_ne h (by decide)) (br_f (ml_ne h (by decide)) (br_f (ml_ne h (by decide)) (br_f (ml_ne h (by decide)) (br_f (ml_ne h (by decide)) ⟨ia, ia, K⟩))))))
  · rw [ml_n0, ml_r_0] at H
    exact br_t rfl ⟨ia, fun s es => H s (es ▸ ml_ag hr rfl)⟩
  · rw [ml_n1, ml_r_1] at H
    exact br_f (by decide) (br_t rfl ⟨ia, ib, ia, fun s es => H s (es ▸ ml_ag hr (by rw [ga, gb]))⟩)
  · rw [ml_n2, ml_r_2] at H
    exact br_f (by decide) (br_f (by decide) (br_t rfl ⟨ia, ib, ia, fun s es => H s (es ▸ ml_ag hr (by rw [ga, gb]))⟩))
  · rw [ml_n3, ml_r_3] at H
    exact br_f (by decide) (br_f (by decide) (br_f (by decide) (br_t rfl ⟨ia, ib, ia, fun s es => H s (es ▸ ml_ag hr (by rw [ga, gb]))⟩)))
  · rw [ml_n4, ml_r_4] at H
    refine br_f (by decide) (br_f (by decide) (br_f (by decide) (br_f (by decide) (br_t rfl ⟨ib, ia, br_c (fun z => ⟨ia, ia, fun s es => H s (es ▸ ml_ag hr ?_)⟩) (fun z => ⟨ib, ia, fun s es => H s (es ▸ ml_ag hr ?_)⟩)⟩))))
    · rw [ga, gb] at z
      rw [if_pos z, ga]
    · rw [ga, gb] at z
      rw [if_neg z, gb]
  · rw [ml_n5, ml_r_5] at H
    refine br_f (by decide) (br_f (by decide) (br_f (by decide) (br_f (by decide) (br_f (by decide) (br_t rfl ⟨ia, ib, br_c (fun z => ?_) (fun z => ?_)⟩)))))
    · rw [ga, gb] at z
      have K := H yr hr
      rw [if_pos z] at K
      exact K
    · rw [ga, gb] at z
      have K := H yr hr
      rw [if_neg z] at K
      exact K
  · rw [ml_n6, ml_r_6] at H
    refine br_f (by decide) (br_f (by decide) (br_f (by decide) (br_f (by decide) (br_f (by decide) (br_f (by decide) (br_t rfl ⟨ia, br_c (fun z => ?_) (fun z => ?_)⟩))))))
    · rw [ga] at z
      have K := H yr hr
      rw [if_pos z] at K
      exact K
    · rw [ga] at z
      have K := H yr hr
      rw [if_neg z] at K
      exact K
theorem my_121 (post : SY → Prop) (J : Int32 → Int32 → Int32 → Int32 → Int32 → Int32 → Int32 → (Nat → Int32) → (Nat → Int32) → (Nat → Int32) → (Nat → Int32) → (Nat → Int32) → (Nat → Int32) → (Nat → Int32) → (Nat → Int32) → (Nat → Int32) → (Nat → Int32) → (Nat → Int32) → (Nat → Int32) → Prop)
    (mu : Int32) (p k s a b : Nat) (hp : p < 12) (ha : a < 4) (hb : b < 4) (ea : ra p = nI a) (eb : rb p = nI b) (o c : Int32) (r : Nat → Int32) (hr : ∀ j, j < 4 → yr j = r j)
    (H : ∀ w, (∀ j, j < 4 → w j = ml_regs o a b c r j) → J (ml_next o a b c p r) (nI (k + 1)) (nI ic) (nI tc) (nI mc) ye (nI (s + 1)) op ra rb cc tx ty te ex pl co ch w) : wY_run_121 post J mu (nI p) (nI k) o c (nI ic) (nI tc) (nI mc) ye (nI s) op ra rb cc tx ty te ex pl co ch yr := by
  have hc : (nI p).toNatClampNeg = p := nI_clamp (by omega)
  have ip : vp_in (nI p) 12 := vp_in_nI hp (by decide)
  unfold wY_run_121
  rw [hc, ea, eb]
  refine ⟨ip, ip, ?_⟩
  refine my_carry _ p a b ha hb o c r hr fun w hw => ?_
  intro f ef x5 e5
  rw [nI_1] at ef e5
  subst ef e5
  exact H w hw
theorem my_loop (post : SY → Prop) (mu : Int32) (hmu : mu = -1 ∨ ∃ m : Nat, m < 24 ∧ mu = nI m ∧ ml_Mu ic op cc pl mo mk co ch m) (hi : ic ≤ 12) (hA : ∀ p, p < ic → ∃ a, a < 4 ∧ ra p = nI a) (hB : ∀ p, p < ic → ∃ b, b < 4 ∧ rb p = nI b) :
    ∀ (d n : Nat) (p : Int32) (r : Nat → Int32) (s k : Nat) (yr : Nat → Int32), d < n → k + d = 100 → (∀ j, j < 4 → yr j = r j) →
    (∀ w, (∀ j, j < 4 → w j = (ml_go ic (ml_eff pl mo op mu) (ml_eff pl mk cc mu) ra rb d p r s).2.1 j) → post (nI ic, nI tc, nI mc, if (ml_go ic (ml_eff pl mo op mu) (ml_eff pl mk cc mu) ra rb d p r s).1 < 0 ∨ nI ic ≤ (ml_go ic (ml_eff pl mo op mu) (ml_eff pl mk cc mu) ra rb d p r s).1 then 1 else 0, nI (ml_go ic (ml_eff pl mo op mu) (ml_eff pl mk cc mu) ra rb d p r s).2.2, op, ra, rb, cc, tx, ty, te, ex, pl, co, ch, w)) →
    wY_run_39 post mu n p (nI k) (nI ic) (nI tc) (nI mc) ye (nI s) op ra rb cc tx ty te ex pl co ch yr := by
  intro d
  induction d with
  | zero =>
    intro n p r s k yr hn hk hr H
    obtain ⟨n, rfl⟩ : ∃ k, n = k + 1 := ⟨n - 1, by omega⟩
    have hk' : k = 100 := by omega
    subst hk'
    have G := H yr hr
    rw [ml_go0] at G
    refine br_t (by decide) ?_
    by_cases h0 : p < 0
    · rw [if_pos (Or.inl h0)] at G
      exact br_t h0 G
    · by_cases h1 : p < nI ic
      · rw [if_neg (fun z => z.elim h0 (Int32.not_le.mpr h1))] at G
        exact br_f h0 (br_t h1 G)
      · rw [if_pos (Or.inr (Int32.not_lt.mp h1))] at G
        exact br_f h0 (br_f h1 G)
  | succ d ih =>
    intro n p r s k yr hn hk hr H
    obtain ⟨n, rfl⟩ : ∃ k, n = k + 1 := ⟨n - 1, by omega⟩
    have h100 : ¬ (100 : Int32) ≤ nI k := nI_ge (b := 100) (by omega) (by decide)
    by_cases h0 : p < 0
    · rw [ml_goOut _ _ _ _ _ _ _ _ _ (Or.inl h0)] at H
      refine br_f h100 (br_t h0 fun x5 e5 => ?_)
      rw [nI_1] at e5
      subst e5
      refine ih n p r s (k + 1) yr (by omega) (by omega) hr ?_
      rw [ml_goOut _ _ _ _ _ _ _ _ _ (Or.inl h0)]
      exact H
    · by_cases h1 : nI ic ≤ p
      · rw [ml_goOut _ _ _ _ _ _ _ _ _ (Or.inr h1)] at H
        refine br_f h100 (br_f h0 (br_t h1 fun x5 e5 => ?_))
        rw [nI_1] at e5
        subst e5
        refine ih n p r s (k + 1) yr (by omega) (by omega) hr ?_
        rw [ml_goOut _ _ _ _ _ _ _ _ _ (Or.inr h1)]
        exact H
      · obtain ⟨q, hq, rfl⟩ := nI_of h0
        have hqi : q < ic := by
          rw [nI_leI (by omega) hq] at h1
          omega
        obtain ⟨a, ha, ea⟩ := hA q hqi
        obtain ⟨b, hb, eb⟩ := hB q hqi
        rw [ml_goIn ic _ _ ra rb d q a b r s hqi hi ha hb ea eb] at H
        have cq : (nI q).toNatClampNeg = q := nI_clamp (by omega)
        have iq : vp_in (nI q) 12 := vp_in_nI (by omega) (by decide)
        have K : ∀ o c : Int32, o = ml_eff pl mo op mu q → c = ml_eff pl mk cc mu q → wY_run_121 post (wY_run_39 post mu n) mu (nI q) (nI k) o c (nI ic) (nI tc) (nI mc) ye (nI s) op ra rb cc tx ty te ex pl co ch yr := by
          intro o c eo' ec'
          subst eo' ec'
          exact my_121 post (wY_run_39 post mu n) mu q k s a b (by omega) ha hb ea eb _ _ r hr fun w hw => ih n _ _ (s + 1) (k + 1) w (by omega) (by omega) hw H
        refine br_f h100 (br_f h0 (br_f h1 ⟨iq, fun x6 e6 => ⟨iq, fun x7 e7 => ?_⟩⟩))
        rw [cq] at e6 e7
        rcases hmu with hm | ⟨m, hm, em, g, hg, eg, hgc⟩
        · refine br_t (by rw [hm]; decide) (K _ _ ?_ ?_)
          · unfold ml_eff; rw [if_pos hm, e6]
          · unfold ml_eff; rw [if_pos hm, e7]
        · have hn0 : ¬ mu < 0 := by rw [em]; exact nI_pos (by omega)
          have hne : ¬ mu = -1 := by
            intro z
            rw [z] at hn0
            exact hn0 (by decide)
          have im : vp_in mu 24 := by rw [em]; exact vp_in_nI hm (by decide)
          have cm : mu.toNatClampNeg = m := by rw [em]; exact nI_clamp (by omega)
          refine br_f hn0 ⟨im, br_c (fun z => ⟨im, ?_⟩) (fun z => ?_)⟩
          · have z' := z
            rw [cm, eg, nI_eq (by omega) (by omega)] at z'
            subst z'
            rcases hgc with ⟨c1, c2, c3⟩ | ⟨c1, c2, c3⟩
            · refine br_t (by rw [cm]; exact c1) ⟨im, fun y7 f7 => K _ _ ?_ ?_⟩
              · unfold ml_eff; rw [if_neg hne, if_pos z, e6, cm, c2]
              · unfold ml_eff; rw [if_neg hne, if_pos z, f7, cm, c3]
            · refine br_f (by rw [cm, c1]; decide) ⟨im, fun y7 f7 => K _ _ ?_ ?_⟩
              · unfold ml_eff; rw [if_neg hne, if_pos z, f7, cm, c2]
              · unfold ml_eff; rw [if_neg hne, if_pos z, e7, cm, c3]
          · refine K _ _ ?_ ?_
            · unfold ml_eff; rw [if_neg hne, if_neg z, e6]
            · unfold ml_eff; rw [if_neg hne, if_neg z, e7]
theorem my_run (post : SY → Prop) (mu : Int32) (hmu : mu = -1 ∨ ∃ m : Nat, m < 24 ∧ mu = nI m ∧ ml_Mu ic op cc pl mo mk co ch m) (hi : ic ≤ 12) (hA : ∀ p, p < ic → ∃ a, a < 4 ∧ ra p = nI a) (hB : ∀ p, p < ic → ∃ b, b < 4 ∧ rb p = nI b) (x y : Int32)
    (H : ∀ w, (ml_E ic op ra rb cc pl mo mk mu x y = 1 → w 0 = ml_O ic op ra rb cc pl mo mk mu x y) → post (nI ic, nI tc, nI mc, ml_E ic op ra rb cc pl mo mk mu x y, ml_L ic op ra rb cc pl mo mk mu x y, op, ra, rb, cc, tx, ty, te, ex, pl, co, ch, w)) : wpY_run post (nI ic, nI tc, nI mc, ye, yl, op, ra, rb, cc, tx, ty, te, ex, pl, co, ch, yr) mu x y := by
  intro r1 e1 r2 e2 r3 e3 r4 e4
  subst e1 e2 e3 e4
  refine ⟨101, ?_⟩
  refine my_loop post mu hmu hi hA hB 100 101 0 (ml_r0 x y) 0 0 _ (by decide) rfl (mx_r0 yr x y) ?_
  intro w hw
  refine H w fun hE => ?_
  have e0 := hw 0 (by decide)
  unfold ml_O
  by_cases hout : (ml_fin ic op ra rb cc pl mo mk mu x y).1 < 0 ∨ nI ic ≤ (ml_fin ic op ra rb cc pl mo mk mu x y).1
  · rw [if_pos hout]; exact e0
  · unfold ml_E at hE
    rw [if_neg hout] at hE
    exact absurd hE (by decide)
end
end
section
/-! meets, ok, the masks -/
def ml_Pr (ic : Nat) (ra rb : Nat → Int32) : Prop := ic ≤ 12 ∧ (∀ p, p < ic → ∃ a, a < 4 ∧ ra p = nI a) ∧ (∀ p, p < ic → ∃ b, b < 4 ∧ rb p = nI b)
def ml_Te (te eo ex : Nat → Int32) (t : Nat) : Prop := (te t = 0 ∧ eo t = 0) ∨ (te t = 1 ∧ eo t = ex t)
section
variable {ic tc mc : Nat} {op ra rb cc tx ty te eo ex pl mo mk co ch : Nat → Int32} {re ro rl ye yl : Int32} {rg km yr : Nat → Int32}
theorem mx_meets (post : Int32 → SX → Prop) (mu : Int32) (hmu : mu = -1 ∨ ∃ m : Nat, m < 24 ∧ mu = nI m) (hP : ml_Pr ic ra rb) (t : Nat) (ht : t < 6)
    (H : ∀ (re ro rl : Int32) (rg : Nat → Int32), post (ml_ok ic op ra rb cc pl mo mk tx ty te eo mu t) (nI ic, nI tc, nI mc, re, ro, rl, op, ra, rb, cc, tx, ty, te, eo, pl, mo, mk, rg, km)) : wpX_meets post (nI ic, nI tc, nI mc, re, ro, rl, op, ra, rb, cc, tx, ty, te, eo, pl, mo, mk, rg, km) mu (nI t) := by
  have it : vp_in (nI t) 6 := vp_in_nI ht (by decide)
  have ct : (nI t).toNatClampNeg = t := nI_clamp (by omega)
  refine ⟨it, it, ?_⟩
  rw [ct]
  refine mx_run _ mu hmu hP.1 hP.2.1 hP.2.2 (tx t) (ty t) fun w => ?_
  refine ⟨it, br_c (fun z => ⟨it, br_c (fun z2 => ?_) (fun z2 => ?_)⟩) (fun z => ?_)⟩
  · have G := H (ml_E ic op ra rb cc pl mo mk mu (tx t) (ty t)) (ml_O ic op ra rb cc pl mo mk mu (tx t) (ty t)) (ml_L ic op ra rb cc pl mo mk mu (tx t) (ty t)) w
    unfold ml_ok at G
    rw [if_pos z, if_pos z2] at G
    exact G
  · have G := H (ml_E ic op ra rb cc pl mo mk mu (tx t) (ty t)) (ml_O ic op ra rb cc pl mo mk mu (tx t) (ty t)) (ml_L ic op ra rb cc pl mo mk mu (tx t) (ty t)) w
    unfold ml_ok at G
    rw [if_pos z, if_neg z2] at G
    exact G
  · have G := H (ml_E ic op ra rb cc pl mo mk mu (tx t) (ty t)) (ml_O ic op ra rb cc pl mo mk mu (tx t) (ty t)) (ml_L ic op ra rb cc pl mo mk mu (tx t) (ty t)) w
    unfold ml_ok at G
    rw [if_neg z] at G
    exact G
theorem my_ok (post : Int32 → SY → Prop) (mu : Int32) (hmu : mu = -1 ∨ ∃ m : Nat, m < 24 ∧ mu = nI m ∧ ml_Mu ic op cc pl mo mk co ch m) (hP : ml_Pr ic ra rb) (t : Nat) (ht : t < 6) (hT : ml_Te te eo ex t)
    (H : ∀ (ye yl : Int32) (yr : Nat → Int32), post (ml_ok ic op ra rb cc pl mo mk tx ty te eo mu t) (nI ic, nI tc, nI mc, ye, yl, op, ra, rb, cc, tx, ty, te, ex, pl, co, ch, yr)) : wpY_ok post (nI ic, nI tc, nI mc, ye, yl, op, ra, rb, cc, tx, ty, te, ex, pl, co, ch, yr) mu (nI t) := by
  have it : vp_in (nI t) 6 := vp_in_nI ht (by decide)
  have ct : (nI t).toNatClampNeg = t := nI_clamp (by omega)
  refine ⟨it, it, ?_⟩
  rw [ct]
  refine my_run _ mu hmu hP.1 hP.2.1 hP.2.2 (tx t) (ty t) fun w hw => ?_
  have G := H (ml_E ic op ra rb cc pl mo mk mu (tx t) (ty t)) (ml_L ic op ra rb cc pl mo mk mu (tx t) (ty t)) w
  unfold ml_ok at G
  refine ⟨it, br_c (fun z => ?_) (fun z => ?_)⟩
  · rw [if_pos z] at G
    rcases ml_E01 ic op ra rb cc pl mo mk mu (tx t) (ty t) with ⟨e0, o0⟩ | e1
    · have hte : te t = 0 := by rw [← z, e0]
      have heo : eo t = 0 := by
        rcases hT with h | h
        · exact h.2
        · rw [hte] at h; exact absurd h.1 (by decide)
      rw [if_pos (by rw [o0, heo])] at G
      exact br_t e0 G
    · have hte : te t = 1 := by rw [← z, e1]
      have heo : eo t = ex t := by
        rcases hT with h | h
        · rw [hte] at h; exact absurd h.1 (by decide)
        · exact h.2
      refine br_f (by rw [e1]; decide) ⟨it, br_c (fun z2 => ?_) (fun z2 => ?_)⟩
      · rw [if_pos (by rw [heo, ← hw e1]; exact z2)] at G
        exact G
      · rw [if_neg (by rw [heo, ← hw e1]; exact z2)] at G
        exact G
  · rw [if_neg z] at G
    exact G
theorem mx_maskL (post : Int32 → SX → Prop) (mu : Int32) (hmu : mu = -1 ∨ ∃ m : Nat, m < 24 ∧ mu = nI m) (hP : ml_Pr ic ra rb) (htc : tc ≤ 6)
    (H : ∀ (re ro rl : Int32) (rg : Nat → Int32), post (ml_mask (ml_ok ic op ra rb cc pl mo mk tx ty te eo mu) tc) (nI ic, nI tc, nI mc, re, ro, rl, op, ra, rb, cc, tx, ty, te, eo, pl, mo, mk, rg, km)) :
    ∀ (d n t : Nat) (re ro rl : Int32) (rg : Nat → Int32), t + d = tc → d < n → wX_killerMask_4 post mu n (ml_mask (ml_ok ic op ra rb cc pl mo mk tx ty te eo mu) t) (nI t) (nI ic) (nI tc) (nI mc) re ro rl op ra rb cc tx ty te eo pl mo mk rg km := by
  intro d
  induction d with
  | zero =>
    intro n t re ro rl rg ht hn
    obtain ⟨n, rfl⟩ : ∃ k, n = k + 1 := ⟨n - 1, by omega⟩
    have e : t = tc := by omega
    subst e
    exact br_t (nI_le (Nat.le_refl _) (by omega)) (H re ro rl rg)
  | succ d ih =>
    intro n t re ro rl rg ht hn
    obtain ⟨n, rfl⟩ : ∃ k, n = k + 1 := ⟨n - 1, by omega⟩
    refine br_f (nI_ge (by omega) (by omega)) ?_
    refine mx_meets _ mu hmu hP t (by omega) fun re ro rl rg => ?_
    have e : ml_mask (ml_ok ic op ra rb cc pl mo mk tx ty te eo mu) (t + 1) = if ml_ok ic op ra rb cc pl mo mk tx ty te eo mu t = 0 then ml_mask (ml_ok ic op ra rb cc pl mo mk tx ty te eo mu) t ||| ((1 : Int32) <<< (nI t &&& 31)) else ml_mask (ml_ok ic op ra rb cc pl mo mk tx ty te eo mu) t := rfl
    have G := ih n (t + 1) re ro rl rg (by omega) (by omega)
    refine br_c (fun z => nm_e (nm_r (nI_1 t) ?_)) (fun z => nm_r (nI_1 t) ?_)
    · rw [e, if_pos z] at G
      exact G
    · rw [e, if_neg z] at G
      exact G
theorem mx_mask (post : Int32 → SX → Prop) (mu : Int32) (hmu : mu = -1 ∨ ∃ m : Nat, m < 24 ∧ mu = nI m) (hP : ml_Pr ic ra rb) (htc : tc ≤ 6)
    (H : ∀ (re ro rl : Int32) (rg : Nat → Int32), post (ml_mask (ml_ok ic op ra rb cc pl mo mk tx ty te eo mu) tc) (nI ic, nI tc, nI mc, re, ro, rl, op, ra, rb, cc, tx, ty, te, eo, pl, mo, mk, rg, km)) : wpX_killerMask post (nI ic, nI tc, nI mc, re, ro, rl, op, ra, rb, cc, tx, ty, te, eo, pl, mo, mk, rg, km) mu :=
  ⟨tc + 1, mx_maskL post mu hmu hP htc H tc (tc + 1) 0 re ro rl rg (by omega) (by omega)⟩
theorem mx_kil (post : Int32 → SX → Prop) (m : Nat) (hm : m < 24) (hP : ml_Pr ic ra rb) (htc : tc ≤ 6)
    (H : ∀ (re ro rl : Int32) (rg : Nat → Int32), post (ml_M ic op ra rb cc pl mo mk tx ty te eo tc m) (nI ic, nI tc, nI mc, re, ro, rl, op, ra, rb, cc, tx, ty, te, eo, pl, mo, mk, rg, km)) : wpX_killerMask post (nI ic, nI tc, nI mc, re, ro, rl, op, ra, rb, cc, tx, ty, te, eo, pl, mo, mk, rg, km) (nI m) :=
  mx_mask post (nI m) (Or.inr ⟨m, hm, rfl⟩) hP htc H
theorem my_maskL (post : Int32 → SY → Prop) (mu : Int32) (hmu : mu = -1 ∨ ∃ m : Nat, m < 24 ∧ mu = nI m ∧ ml_Mu ic op cc pl mo mk co ch m) (hP : ml_Pr ic ra rb) (htc : tc ≤ 6) (hT : ∀ t, t < tc → ml_Te te eo ex t)
    (H : ∀ (ye yl : Int32) (yr : Nat → Int32), post (ml_mask (ml_ok ic op ra rb cc pl mo mk tx ty te eo mu) tc) (nI ic, nI tc, nI mc, ye, yl, op, ra, rb, cc, tx, ty, te, ex, pl, co, ch, yr)) :
    ∀ (d n t : Nat) (ye yl : Int32) (yr : Nat → Int32), t + d = tc → d < n → wY_killers_15 post mu n (ml_mask (ml_ok ic op ra rb cc pl mo mk tx ty te eo mu) t) (nI t) (nI ic) (nI tc) (nI mc) ye yl op ra rb cc tx ty te ex pl co ch yr := by
  intro d
  induction d with
  | zero =>
    intro n t ye yl yr ht hn
    obtain ⟨n, rfl⟩ : ∃ k, n = k + 1 := ⟨n - 1, by omega⟩
    have e : t = tc := by omega
    subst e
    exact br_t (nI_le (Nat.le_refl _) (by omega)) (H ye yl yr)
  | succ d ih =>
    intro n t ye yl yr ht hn
    obtain ⟨n, rfl⟩ : ∃ k, n = k + 1 := ⟨n - 1, by omega⟩
    refine br_f (nI_ge (by omega) (by omega)) ?_
    refine my_ok _ mu hmu hP t (by omega) (hT t (by omega)) fun ye yl yr => ?_
    have e : ml_mask (ml_ok ic op ra rb cc pl mo mk tx ty te eo mu) (t + 1) = if ml_ok ic op ra rb cc pl mo mk tx ty te eo mu t = 0 then ml_mask (ml_ok ic op ra rb cc pl mo mk tx ty te eo mu) t ||| ((1 : Int32) <<< (nI t &&& 31)) else ml_mask (ml_ok ic op ra rb cc pl mo mk tx ty te eo mu) t := rfl
    have G := ih n (t + 1) ye yl yr (by omega) (by omega)
    refine br_c (fun z => nm_e (nm_r (nI_1 t) ?_)) (fun z => nm_r (nI_1 t) ?_)
    · rw [e, if_pos z] at G
      exact G
    · rw [e, if_neg z] at G
      exact G
theorem my_kil (post : Int32 → SY → Prop) (m : Nat) (hm : m < mc) (hmc : mc ≤ 24) (hM : ml_Mu ic op cc pl mo mk co ch m) (hP : ml_Pr ic ra rb) (htc : tc ≤ 6) (hT : ∀ t, t < tc → ml_Te te eo ex t)
    (H : ∀ (ye yl : Int32) (yr : Nat → Int32), post (ml_M ic op ra rb cc pl mo mk tx ty te eo tc m) (nI ic, nI tc, nI mc, ye, yl, op, ra, rb, cc, tx, ty, te, ex, pl, co, ch, yr)) : wpY_killers post (nI ic, nI tc, nI mc, ye, yl, op, ra, rb, cc, tx, ty, te, ex, pl, co, ch, yr) (nI m) := by
  refine br_f (nI_pos (by omega)) (br_t (nI_lt hm (by omega)) (br_t rfl ?_))
  exact ⟨tc + 1, my_maskL post (nI m) (Or.inr ⟨m, by omega, rfl, hM⟩) hP htc hT H tc (tc + 1) 0 ye yl yr (by omega) (by omega)⟩
/-! counting over the mutants -/
end
def ml_cn (P : Nat → Int32) : Nat → Int32
  | 0 => 0
  | m + 1 => if P m = 0 then ml_cn P m else ml_cn P m + 1
section
variable {ic tc mc : Nat} {op ra rb cc tx ty te eo ex pl mo mk co ch : Nat → Int32} {re ro rl ye yl : Int32} {rg km yr : Nat → Int32}
theorem mx_killedL (post : Int32 → SX → Prop) (set : Int32) (hP : ml_Pr ic ra rb) (htc : tc ≤ 6) (hmc : mc ≤ 24)
    (H : ∀ (re ro rl : Int32) (rg : Nat → Int32), post (ml_cn (fun m => ml_M ic op ra rb cc pl mo mk tx ty te eo tc m &&& set) mc) (nI ic, nI tc, nI mc, re, ro, rl, op, ra, rb, cc, tx, ty, te, eo, pl, mo, mk, rg, km)) :
    ∀ (d n m : Nat) (re ro rl : Int32) (rg : Nat → Int32), m + d = mc → d < n → wX_killed_4 post set n (ml_cn (fun m => ml_M ic op ra rb cc pl mo mk tx ty te eo tc m &&& set) m) (nI m) (nI ic) (nI tc) (nI mc) re ro rl op ra rb cc tx ty te eo pl mo mk rg km := by
  intro d
  induction d with
  | zero =>
    intro n m re ro rl rg ht hn
    obtain ⟨n, rfl⟩ : ∃ k, n = k + 1 := ⟨n - 1, by omega⟩
    have e : m = mc := by omega
    subst e
    exact br_t (nI_le (Nat.le_refl _) (by omega)) (H re ro rl rg)
  | succ d ih =>
    intro n m re ro rl rg ht hn
    obtain ⟨n, rfl⟩ : ∃ k, n = k + 1 := ⟨n - 1, by omega⟩
    refine br_f (nI_ge (by omega) (by omega)) ?_
    refine mx_kil _ m (by omega) hP htc fun re ro rl rg => ?_
    have e : ml_cn (fun m => ml_M ic op ra rb cc pl mo mk tx ty te eo tc m &&& set) (m + 1) = if (ml_M ic op ra rb cc pl mo mk tx ty te eo tc m &&& set) = 0 then ml_cn (fun m => ml_M ic op ra rb cc pl mo mk tx ty te eo tc m &&& set) m else ml_cn (fun m => ml_M ic op ra rb cc pl mo mk tx ty te eo tc m &&& set) m + 1 := rfl
    have G := ih n (m + 1) re ro rl rg (by omega) (by omega)
    refine br_c (fun z => nm_r (nI_1 m) ?_) (fun z => nm_e (nm_r (nI_1 m) ?_))
    · rw [e, if_pos z] at G
      exact G
    · rw [e, if_neg z] at G
      exact G
theorem my_killedL (post : Int32 → SY → Prop) (set : Int32) (hP : ml_Pr ic ra rb) (htc : tc ≤ 6) (hmc : mc ≤ 24) (hT : ∀ t, t < tc → ml_Te te eo ex t) (hM : ∀ m, m < mc → ml_Mu ic op cc pl mo mk co ch m)
    (H : ∀ (ye yl : Int32) (yr : Nat → Int32), post (ml_cn (fun m => ml_M ic op ra rb cc pl mo mk tx ty te eo tc m &&& set) mc) (nI ic, nI tc, nI mc, ye, yl, op, ra, rb, cc, tx, ty, te, ex, pl, co, ch, yr)) :
    ∀ (d n m : Nat) (ye yl : Int32) (yr : Nat → Int32), m + d = mc → d < n → wY_killed_4 post set n (ml_cn (fun m => ml_M ic op ra rb cc pl mo mk tx ty te eo tc m &&& set) m) (nI m) (nI ic) (nI tc) (nI mc) ye yl op ra rb cc tx ty te ex pl co ch yr := by
  intro d
  induction d with
  | zero =>
    intro n m ye yl yr ht hn
    obtain ⟨n, rfl⟩ : ∃ k, n = k + 1 := ⟨n - 1, by omega⟩
    have e : m = mc := by omega
    subst e
    exact br_t (nI_le (Nat.le_refl _) (by omega)) (H ye yl yr)
  | succ d ih =>
    intro n m ye yl yr ht hn
    obtain ⟨n, rfl⟩ : ∃ k, n = k + 1 := ⟨n - 1, by omega⟩
    refine br_f (nI_ge (by omega) (by omega)) ?_
    refine my_kil _ m (by omega) hmc (hM m (by omega)) hP htc hT fun ye yl yr => ?_
    have e : ml_cn (fun m => ml_M ic op ra rb cc pl mo mk tx ty te eo tc m &&& set) (m + 1) = if (ml_M ic op ra rb cc pl mo mk tx ty te eo tc m &&& set) = 0 then ml_cn (fun m => ml_M ic op ra rb cc pl mo mk tx ty te eo tc m &&& set) m else ml_cn (fun m => ml_M ic op ra rb cc pl mo mk tx ty te eo tc m &&& set) m + 1 := rfl
    have G := ih n (m + 1) ye yl yr (by omega) (by omega)
    refine br_c (fun z => nm_r (nI_1 m) ?_) (fun z => nm_e (nm_r (nI_1 m) ?_))
    · rw [e, if_pos z] at G
      exact G
    · rw [e, if_neg z] at G
      exact G
end
end
section
/-! givesTheSame, alike, same -/
def ml_al (f : Nat → Bool) : Nat → Bool
  | 0 => true
  | n + 1 => ml_al f n && f n
def ml_fl (b : Bool) : Int32 := if b = true then 1 else 0
theorem ml_al_f {f : Nat → Bool} {j : Nat} (h : f j = false) : ∀ n, j < n → ml_al f n = false := by
  intro n
  induction n with
  | zero => intro h; exact absurd h (by omega)
  | succ n ih =>
    intro hj
    show (ml_al f n && f n) = false
    by_cases e : j = n
    · subst e; rw [h, Bool.and_false]
    · rw [ih (by omega), Bool.false_and]
theorem ml_al_s {f : Nat → Bool} {n : Nat} (h : ml_al f n = true) (hf : f n = true) : ml_al f (n + 1) = true := by
  show (ml_al f n && f n) = true
  rw [h, hf]; rfl
theorem ml_al_i {f : Nat → Bool} : ∀ {n : Nat}, ml_al f n = true ↔ ∀ j, j < n → f j = true := by
  intro n
  constructor
  · intro h j hj
    cases e : f j with
    | true => rfl
    | false => rw [ml_al_f e n hj] at h; exact absurd h (by decide)
  · induction n with
    | zero => intro _; rfl
    | succ n ih => intro h; exact ml_al_s (ih fun j hj => h j (by omega)) (h n (by omega))
def ml_sf (ic : Nat) (op ra rb cc pl mo mk tx ty : Nat → Int32) (mu : Int32) (t : Nat) : Bool :=
  decide (ml_E ic op ra rb cc pl mo mk mu (tx t) (ty t) = ml_E ic op ra rb cc pl mo mk (-1) (tx t) (ty t) ∧ ml_O ic op ra rb cc pl mo mk mu (tx t) (ty t) = ml_O ic op ra rb cc pl mo mk (-1) (tx t) (ty t))
def ml_S (ic : Nat) (op ra rb cc pl mo mk tx ty : Nat → Int32) (tc : Nat) (m : Nat) : Int32 := ml_fl (ml_al (ml_sf ic op ra rb cc pl mo mk tx ty (nI m)) tc)
section
variable {ic tc mc : Nat} {op ra rb cc tx ty te eo ex pl mo mk co ch : Nat → Int32} {re ro rl ye yl : Int32} {rg km yr : Nat → Int32}
theorem mx_givesL (post : Int32 → SX → Prop) (m : Nat) (hm : m < 24) (hP : ml_Pr ic ra rb) (htc : tc ≤ 6)
    (H : ∀ (re ro rl : Int32) (rg : Nat → Int32), post (ml_S ic op ra rb cc pl mo mk tx ty tc m) (nI ic, nI tc, nI mc, re, ro, rl, op, ra, rb, cc, tx, ty, te, eo, pl, mo, mk, rg, km)) :
    ∀ (d n t : Nat) (re ro rl : Int32) (rg : Nat → Int32), t + d = tc → d < n → ml_al (ml_sf ic op ra rb cc pl mo mk tx ty (nI m)) t = true → wX_givesTheSame_2 post (nI m) n (nI t) (nI ic) (nI tc) (nI mc) re ro rl op ra rb cc tx ty te eo pl mo mk rg km := by
  intro d
  induction d with
  | zero =>
    intro n t re ro rl rg ht hn ha
    obtain ⟨n, rfl⟩ : ∃ k, n = k + 1 := ⟨n - 1, by omega⟩
    have e : t = tc := by omega
    subst e
    have G := H re ro rl rg
    unfold ml_S ml_fl at G
    rw [if_pos ha] at G
    exact br_t (nI_le (Nat.le_refl _) (by omega)) G
  | succ d ih =>
    intro n t re ro rl rg ht hn ha
    obtain ⟨n, rfl⟩ : ∃ k, n = k + 1 := ⟨n - 1, by omega⟩
    have it : vp_in (nI t) 6 := vp_in_nI (by omega) (by decide)
    have ct : (nI t).toNatClampNeg = t := nI_clamp (by omega)
    refine br_f (nI_ge (by omega) (by omega)) ⟨it, it, ?_⟩
    rw [ct]
    refine mx_run _ (-1) (Or.inl rfl) hP.1 hP.2.1 hP.2.2 (tx t) (ty t) fun w1 => ?_
    refine ⟨it, it, ?_⟩
    refine mx_run _ (nI m) (Or.inr ⟨m, hm, rfl⟩) hP.1 hP.2.1 hP.2.2 (tx t) (ty t) fun w => ?_
    have N : ml_sf ic op ra rb cc pl mo mk tx ty (nI m) t = false → post 0 (nI ic, nI tc, nI mc, ml_E ic op ra rb cc pl mo mk (nI m) (tx t) (ty t), ml_O ic op ra rb cc pl mo mk (nI m) (tx t) (ty t), ml_L ic op ra rb cc pl mo mk (nI m) (tx t) (ty t), op, ra, rb, cc, tx, ty, te, eo, pl, mo, mk, w, km) := by
      intro hf
      have G := H (ml_E ic op ra rb cc pl mo mk (nI m) (tx t) (ty t)) (ml_O ic op ra rb cc pl mo mk (nI m) (tx t) (ty t)) (ml_L ic op ra rb cc pl mo mk (nI m) (tx t) (ty t)) w
      unfold ml_S ml_fl at G
      rw [ml_al_f hf tc (by omega), if_neg (by decide)] at G
      exact G
    refine br_c (fun z => br_c (fun z2 => nm_r (nI_1 t) ?_) (fun z2 => ?_)) (fun z => ?_)
    · exact ih n (t + 1) _ _ _ w (by omega) (by omega) (ml_al_s ha (decide_eq_true ⟨z, z2⟩))
    · exact N (decide_eq_false fun q => z2 q.2)
    · exact N (decide_eq_false fun q => z q.1)
theorem my_alikeL (post : Int32 → SY → Prop) (m : Nat) (hm : m < 24) (hM : ml_Mu ic op cc pl mo mk co ch m) (hP : ml_Pr ic ra rb) (htc : tc ≤ 6)
    (H : ∀ (ye yl : Int32) (yr : Nat → Int32), post (ml_S ic op ra rb cc pl mo mk tx ty tc m) (nI ic, nI tc, nI mc, ye, yl, op, ra, rb, cc, tx, ty, te, ex, pl, co, ch, yr)) :
    ∀ (d n t : Nat) (ye yl : Int32) (yr : Nat → Int32), t + d = tc → d < n → ml_al (ml_sf ic op ra rb cc pl mo mk tx ty (nI m)) t = true → wY_alike_2 post (nI m) n (nI t) (nI ic) (nI tc) (nI mc) ye yl op ra rb cc tx ty te ex pl co ch yr := by
  intro d
  induction d with
  | zero =>
    intro n t ye yl yr ht hn ha
    obtain ⟨n, rfl⟩ : ∃ k, n = k + 1 := ⟨n - 1, by omega⟩
    have e : t = tc := by omega
    subst e
    have G := H ye yl yr
    unfold ml_S ml_fl at G
    rw [if_pos ha] at G
    exact br_t (nI_le (Nat.le_refl _) (by omega)) G
  | succ d ih =>
    intro n t ye yl yr ht hn ha
    obtain ⟨n, rfl⟩ : ∃ k, n = k + 1 := ⟨n - 1, by omega⟩
    have it : vp_in (nI t) 6 := vp_in_nI (by omega) (by decide)
    have ct : (nI t).toNatClampNeg = t := nI_clamp (by omega)
    refine br_f (nI_ge (by omega) (by omega)) ⟨it, it, ?_⟩
    rw [ct]
    refine my_run (mo := mo) (mk := mk) _ (-1) (Or.inl rfl) hP.1 hP.2.1 hP.2.2 (tx t) (ty t) fun w1 hw1 => ?_
    intro x4 e4
    refine ⟨it, it, ?_⟩
    refine my_run (mo := mo) (mk := mk) _ (nI m) (Or.inr ⟨m, hm, rfl, hM⟩) hP.1 hP.2.1 hP.2.2 (tx t) (ty t) fun w hw => ?_
    have N : ml_sf ic op ra rb cc pl mo mk tx ty (nI m) t = false → post 0 (nI ic, nI tc, nI mc, ml_E ic op ra rb cc pl mo mk (nI m) (tx t) (ty t), ml_L ic op ra rb cc pl mo mk (nI m) (tx t) (ty t), op, ra, rb, cc, tx, ty, te, ex, pl, co, ch, w) := by
      intro hf
      have G := H (ml_E ic op ra rb cc pl mo mk (nI m) (tx t) (ty t)) (ml_L ic op ra rb cc pl mo mk (nI m) (tx t) (ty t)) w
      unfold ml_S ml_fl at G
      rw [ml_al_f hf tc (by omega), if_neg (by decide)] at G
      exact G
    have Kt : ml_sf ic op ra rb cc pl mo mk tx ty (nI m) t = true → wY_alike_2 post (nI m) n (nI (t + 1)) (nI ic) (nI tc) (nI mc) (ml_E ic op ra rb cc pl mo mk (nI m) (tx t) (ty t)) (ml_L ic op ra rb cc pl mo mk (nI m) (tx t) (ty t)) op ra rb cc tx ty te ex pl co ch w := by
      intro hf
      exact ih n (t + 1) _ _ w (by omega) (by omega) (ml_al_s ha hf)
    refine br_c (fun z => br_c (fun z2 => nm_r (nI_1 t) ?_) (fun z2 => br_c (fun z3 => nm_r (nI_1 t) ?_) (fun z3 => ?_))) (fun z => ?_)
    · refine Kt (decide_eq_true ⟨z, ?_⟩)
      rcases ml_E01 ic op ra rb cc pl mo mk (-1) (tx t) (ty t) with ⟨a1, a2⟩ | a1
      · rcases ml_E01 ic op ra rb cc pl mo mk (nI m) (tx t) (ty t) with ⟨b1, b2⟩ | b1
        · rw [a2, b2]
        · rw [z, a1] at b1; exact absurd b1 (by decide)
      · rw [z2] at a1; exact absurd a1 (by decide)
    · have h1 : ml_E ic op ra rb cc pl mo mk (-1) (tx t) (ty t) = 1 := (ml_E01 ic op ra rb cc pl mo mk (-1) (tx t) (ty t)).resolve_left fun q => z2 q.1
      refine Kt (decide_eq_true ⟨z, ?_⟩)
      rw [← hw (z.trans h1), ← hw1 h1, ← e4]
      exact z3
    · have h1 : ml_E ic op ra rb cc pl mo mk (-1) (tx t) (ty t) = 1 := (ml_E01 ic op ra rb cc pl mo mk (-1) (tx t) (ty t)).resolve_left fun q => z2 q.1
      refine N (decide_eq_false fun q => z3 ?_)
      rw [e4]
      show w 0 = w1 0
      rw [hw (z.trans h1), hw1 h1]
      exact q.2
    · exact N (decide_eq_false fun q => z q.1)
theorem mx_sameL (post : Int32 → SX → Prop) (hP : ml_Pr ic ra rb) (htc : tc ≤ 6) (hmc : mc ≤ 24)
    (H : ∀ (re ro rl : Int32) (rg : Nat → Int32), post (ml_cn (ml_S ic op ra rb cc pl mo mk tx ty tc) mc) (nI ic, nI tc, nI mc, re, ro, rl, op, ra, rb, cc, tx, ty, te, eo, pl, mo, mk, rg, km)) :
    ∀ (d n m : Nat) (re ro rl : Int32) (rg : Nat → Int32), m + d = mc → d < n → wX_same_4 post n (ml_cn (ml_S ic op ra rb cc pl mo mk tx ty tc) m) (nI m) (nI ic) (nI tc) (nI mc) re ro rl op ra rb cc tx ty te eo pl mo mk rg km := by
  intro d
  induction d with
  | zero =>
    intro n m re ro rl rg ht hn
    obtain ⟨n, rfl⟩ : ∃ k, n = k + 1 := ⟨n - 1, by omega⟩
    have e : m = mc := by omega
    subst e
    exact br_t (nI_le (Nat.le_refl _) (by omega)) (H re ro rl rg)
  | succ d ih =>
    intro n m re ro rl rg ht hn
    obtain ⟨n, rfl⟩ : ∃ k, n = k + 1 := ⟨n - 1, by omega⟩
    refine br_f (nI_ge (by omega) (by omega)) ?_
    refine ⟨tc + 1, mx_givesL _ m (by omega) hP htc ?_ tc (tc + 1) 0 re ro rl rg (by omega) (by omega) rfl⟩
    intro re ro rl rg
    have e : ml_cn (ml_S ic op ra rb cc pl mo mk tx ty tc) (m + 1) = if ml_S ic op ra rb cc pl mo mk tx ty tc m = 0 then ml_cn (ml_S ic op ra rb cc pl mo mk tx ty tc) m else ml_cn (ml_S ic op ra rb cc pl mo mk tx ty tc) m + 1 := rfl
    have G := ih n (m + 1) re ro rl rg (by omega) (by omega)
    refine br_c (fun z => nm_r (nI_1 m) ?_) (fun z => nm_e (nm_r (nI_1 m) ?_))
    · rw [e, if_pos z] at G
      exact G
    · rw [e, if_neg z] at G
      exact G
theorem my_sameL (post : Int32 → SY → Prop) (hP : ml_Pr ic ra rb) (htc : tc ≤ 6) (hmc : mc ≤ 24) (hM : ∀ m, m < mc → ml_Mu ic op cc pl mo mk co ch m)
    (H : ∀ (ye yl : Int32) (yr : Nat → Int32), post (ml_cn (ml_S ic op ra rb cc pl mo mk tx ty tc) mc) (nI ic, nI tc, nI mc, ye, yl, op, ra, rb, cc, tx, ty, te, ex, pl, co, ch, yr)) :
    ∀ (d n m : Nat) (ye yl : Int32) (yr : Nat → Int32), m + d = mc → d < n → wY_same_4 post n (ml_cn (ml_S ic op ra rb cc pl mo mk tx ty tc) m) (nI m) (nI ic) (nI tc) (nI mc) ye yl op ra rb cc tx ty te ex pl co ch yr := by
  intro d
  induction d with
  | zero =>
    intro n m ye yl yr ht hn
    obtain ⟨n, rfl⟩ : ∃ k, n = k + 1 := ⟨n - 1, by omega⟩
    have e : m = mc := by omega
    subst e
    exact br_t (nI_le (Nat.le_refl _) (by omega)) (H ye yl yr)
  | succ d ih =>
    intro n m ye yl yr ht hn
    obtain ⟨n, rfl⟩ : ∃ k, n = k + 1 := ⟨n - 1, by omega⟩
    refine br_f (nI_ge (by omega) (by omega)) ?_
    refine ⟨tc + 1, my_alikeL _ m (by omega) (hM m (by omega)) hP htc ?_ tc (tc + 1) 0 ye yl yr (by omega) (by omega) rfl⟩
    intro ye yl yr
    have e : ml_cn (ml_S ic op ra rb cc pl mo mk tx ty tc) (m + 1) = if ml_S ic op ra rb cc pl mo mk tx ty tc m = 0 then ml_cn (ml_S ic op ra rb cc pl mo mk tx ty tc) m else ml_cn (ml_S ic op ra rb cc pl mo mk tx ty tc) m + 1 := rfl
    have G := ih n (m + 1) ye yl yr (by omega) (by omega)
    refine br_c (fun z => nm_r (nI_1 m) ?_) (fun z => nm_e (nm_r (nI_1 m) ?_))
    · rw [e, if_pos z] at G
      exact G
    · rw [e, if_neg z] at G
      exact G
end
end
section
/-! enough: the pure part -/
def ml_si (s : Int32) : Nat → Int32
  | 0 => 0
  | j + 1 => ml_si s j + ((s >>> (nI j &&& 31)) &&& 1)
def ml_sz (s : Nat) : Nat := s % 2 + s / 2 % 2 + s / 4 % 2 + s / 8 % 2 + s / 16 % 2 + s / 32 % 2
theorem ml_siz : ∀ s, s < 64 → ml_si (nI s) 6 = nI (ml_sz s) := by decide +kernel
theorem ml_sz6 (s : Nat) : ml_sz s ≤ 6 := by unfold ml_sz; omega
theorem ml_szm : ∀ k, k < 7 → ∀ s, s < 64 → ml_sz (s % 2 ^ k) ≤ ml_sz s := by decide +kernel
theorem ml_szf : ∀ k, k < 7 → ml_sz (2 ^ k - 1) = k ∧ 2 ^ k ≤ 64 := by decide +kernel
def ml_le (b : Nat) (k : Nat → Bool) : Nat → Nat
  | 0 => b
  | s + 1 => if ml_sz s < ml_le b k s ∧ k s = true then ml_sz s else ml_le b k s
theorem ml_le_b (b : Nat) (k : Nat → Bool) : ∀ n, ml_le b k n ≤ b := by
  intro n
  induction n with
  | zero => exact Nat.le_refl _
  | succ n ih =>
    show (if ml_sz n < ml_le b k n ∧ k n = true then ml_sz n else ml_le b k n) ≤ b
    split
    · rename_i h; omega
    · exact ih
theorem ml_le_s (b : Nat) (k : Nat → Bool) : ∀ n s, s < n → k s = true → ml_le b k n ≤ ml_sz s := by
  intro n
  induction n with
  | zero => intro s h; exact absurd h (by omega)
  | succ n ih =>
    intro s hs hk
    show (if ml_sz n < ml_le b k n ∧ k n = true then ml_sz n else ml_le b k n) ≤ ml_sz s
    by_cases e : s = n
    · subst e
      by_cases h : ml_sz s < ml_le b k s
      · rw [if_pos ⟨h, hk⟩]; exact Nat.le_refl _
      · rw [if_neg (fun q => h q.1)]; omega
    · have := ih s (by omega) hk
      split
      · rename_i h; omega
      · exact this
theorem ml_le_e (b : Nat) (k : Nat → Bool) : ∀ n, ml_le b k n = b ∨ ∃ s, s < n ∧ k s = true ∧ ml_le b k n = ml_sz s := by
  intro n
  induction n with
  | zero => exact Or.inl rfl
  | succ n ih =>
    show (if ml_sz n < ml_le b k n ∧ k n = true then ml_sz n else ml_le b k n) = b ∨ ∃ s, s < n + 1 ∧ k s = true ∧ (if ml_sz n < ml_le b k n ∧ k n = true then ml_sz n else ml_le b k n) = ml_sz s
    by_cases h : ml_sz n < ml_le b k n ∧ k n = true
    · rw [if_pos h]; exact Or.inr ⟨n, by omega, h.2, rfl⟩
    · rw [if_neg h]
      rcases ih with e | ⟨s, hs, hk, e⟩
      · exact Or.inl e
      · exact Or.inr ⟨s, by omega, hk, e⟩
/-- kills all that can be killed: every mask is 0 or meets the set -/
def ml_ka (M : Nat → Int32) (mc : Nat) (s : Nat) : Bool := ml_al (fun m => decide (M m = 0 ∨ ¬ (M m &&& nI s) = 0)) mc
theorem ml_ka_i {M : Nat → Int32} {mc s : Nat} : ml_ka M mc s = true ↔ ∀ m, m < mc → (M m = 0 ∨ ¬ (M m &&& nI s) = 0) := by
  unfold ml_ka
  rw [ml_al_i]
  constructor
  · intro h m hm; exact of_decide_eq_true (h m hm)
  · intro h m hm; exact decide_eq_true (h m hm)
theorem ml_least {M : Nat → Int32} {mc tc : Nat} (htc : tc ≤ 6) (hM : ∀ m, m < mc → ∃ k, k < 2 ^ tc ∧ M m = nI k) : ml_le tc (ml_ka M mc) (2 ^ tc) = ml_le 6 (ml_ka M mc) 64 := by
  obtain ⟨hf, h64⟩ := ml_szf tc (by omega)
  have hpos : 0 < 2 ^ tc := Nat.two_pow_pos tc
  have hred : ∀ k s, k < 2 ^ tc → k &&& (s % 2 ^ tc) = k &&& s := by
    intro k s hk
    have e : k &&& (2 ^ tc - 1) = k := by rw [Nat.and_two_pow_sub_one_eq_mod, Nat.mod_eq_of_lt hk]
    rw [← Nat.and_two_pow_sub_one_eq_mod s tc, Nat.and_comm s, ← Nat.and_assoc, e]
  have kfull : ml_ka M mc (2 ^ tc - 1) = true := by
    rw [ml_ka_i]
    intro m hm
    obtain ⟨k, hk, e⟩ := hM m hm
    by_cases z : M m = 0
    · exact Or.inl z
    · right
      rw [e, nx_and, Nat.and_two_pow_sub_one_eq_mod, Nat.mod_eq_of_lt hk, ← e]
      exact z
  have kmod : ∀ s, ml_ka M mc s = true → ml_ka M mc (s % 2 ^ tc) = true := by
    intro s hs
    rw [ml_ka_i] at hs ⊢
    intro m hm
    obtain ⟨k, hk, e⟩ := hM m hm
    rcases hs m hm with z | z
    · exact Or.inl z
    · right
      rw [e, nx_and] at z ⊢
      rw [hred k s hk]
      exact z
  apply Nat.le_antisymm
  · rcases ml_le_e 6 (ml_ka M mc) 64 with e | ⟨s, hs, hk, e⟩
    · rw [e]
      exact Nat.le_trans (ml_le_b _ _ _) htc
    · rw [e]
      exact Nat.le_trans (ml_le_s tc (ml_ka M mc) (2 ^ tc) (s % 2 ^ tc) (Nat.mod_lt _ hpos) (kmod s hk)) (ml_szm tc (by omega) s hs)
  · rcases ml_le_e tc (ml_ka M mc) (2 ^ tc) with e | ⟨s, hs, hk, e⟩
    · rw [e]
      have := ml_le_s 6 (ml_ka M mc) 64 (2 ^ tc - 1) (by omega) kfull
      omega
    · rw [e]
      exact ml_le_s 6 (ml_ka M mc) 64 s (by omega) hk
theorem ml_or (a b : Nat) : nI a ||| nI b = nI (a ||| b) := by
  apply Int32.toBitVec_inj.1
  show BitVec.ofNat 32 a ||| BitVec.ofNat 32 b = BitVec.ofNat 32 (a ||| b)
  apply BitVec.eq_of_getLsbD_eq
  intro i hi
  simp [hi]
theorem ml_1sh (t : Nat) (ht : t < 31) : (1 : Int32) <<< (nI t &&& 31) = nI (2 ^ t) := by
  have h : 1 * 2 ^ t < 2 ^ 32 := by
    rw [Nat.one_mul]
    exact Nat.pow_lt_pow_right (by decide) (by omega)
  have := pk_shlN (n := 1) (nI t &&& 31) t (s_l t (by omega)) h
  rw [Nat.one_mul] at this
  exact this
theorem ml_mask_b (f : Nat → Int32) : ∀ t, t ≤ 6 → ∃ k, k < 2 ^ t ∧ ml_mask f t = nI k := by
  intro t
  induction t with
  | zero => intro _; exact ⟨0, by decide, rfl⟩
  | succ t ih =>
    intro ht
    obtain ⟨k, hk, e⟩ := ih (by omega)
    have h2 : 2 ^ t < 2 ^ (t + 1) := Nat.pow_lt_pow_right (by decide) (by omega)
    show ∃ k, k < 2 ^ (t + 1) ∧ (if f t = 0 then ml_mask f t ||| ((1 : Int32) <<< (nI t &&& 31)) else ml_mask f t) = nI k
    by_cases z : f t = 0
    · rw [if_pos z, e, ml_1sh t (by omega), ml_or]
      exact ⟨_, Nat.or_lt_two_pow (by omega) h2, rfl⟩
    · rw [if_neg z]
      exact ⟨k, by omega, e⟩
/-! enough: the loops -/
section
variable {ic tc mc : Nat} {op ra rb cc tx ty te eo ex pl mo mk co ch : Nat → Int32} {re ro rl ye yl : Int32} {rg km yr : Nat → Int32}
theorem mx_sizeL (post : Int32 → Prop) (s : Int32) (H : post (ml_si s 6)) : ∀ (d n j : Nat), j + d = 6 → d < n → wX_sizeOf_4 post s (nI ic) (nI tc) (nI mc) re ro rl op ra rb cc tx ty te eo pl mo mk rg km n (ml_si s j) (nI j) := by
  intro d
  induction d with
  | zero =>
    intro n j hj hn
    obtain ⟨n, rfl⟩ : ∃ k, n = k + 1 := ⟨n - 1, by omega⟩
    have e : j = 6 := by omega
    subst e
    exact br_t (by decide) H
  | succ d ih =>
    intro n j hj hn
    obtain ⟨n, rfl⟩ : ∃ k, n = k + 1 := ⟨n - 1, by omega⟩
    exact br_f (nI_ge (b := 6) (by omega) (by decide)) (nm_e (nm_r (nI_1 j) (ih n (j + 1) (by omega) (by omega))))
theorem mx_size (post : Int32 → Prop) (s : Nat) (hs : s < 64) (H : post (nI (ml_sz s))) : wpX_sizeOf post (nI ic, nI tc, nI mc, re, ro, rl, op, ra, rb, cc, tx, ty, te, eo, pl, mo, mk, rg, km) (nI s) :=
  ⟨7, mx_sizeL post (nI s) (by rw [ml_siz s hs]; exact H) 6 7 0 rfl (by decide)⟩
theorem mx_kaL (M : Nat → Int32) (post : Int32 → Prop) (s : Nat) (hmc : mc ≤ 24) (hkm : ∀ m, m < mc → km m = M m) (H : post (ml_fl (ml_ka M mc s))) :
    ∀ (d n m : Nat), m + d = mc → d < n → ml_ka M m s = true → wX_killsAllThatCanBe_2 post (nI s) (nI ic) (nI tc) (nI mc) re ro rl op ra rb cc tx ty te eo pl mo mk rg km n (nI m) := by
  intro d
  induction d with
  | zero =>
    intro n m hm hn ha
    obtain ⟨n, rfl⟩ : ∃ k, n = k + 1 := ⟨n - 1, by omega⟩
    have e : m = mc := by omega
    subst e
    unfold ml_fl at H
    rw [if_pos ha] at H
    exact br_t (nI_le (Nat.le_refl _) (by omega)) H
  | succ d ih =>
    intro n m hm hn ha
    obtain ⟨n, rfl⟩ : ∃ k, n = k + 1 := ⟨n - 1, by omega⟩
    have im : vp_in (nI m) 24 := vp_in_nI (by omega) (by decide)
    have cm : (nI m).toNatClampNeg = m := nI_clamp (by omega)
    have ek := hkm m (by omega)
    refine br_f (nI_ge (by omega) (by omega)) ⟨im, br_c (fun z => nm_r (nI_1 m) ?_) (fun z => ⟨im, br_c (fun z2 => ?_) (fun z2 => nm_r (nI_1 m) ?_)⟩)⟩
    · rw [cm, ek] at z
      exact ih n (m + 1) (by omega) (by omega) (ml_al_s ha (decide_eq_true (Or.inl z)))
    · rw [cm, ek] at z z2
      have hf : ml_ka M mc s = false := ml_al_f (j := m) (decide_eq_false fun q => q.elim z (fun q2 => q2 z2)) mc (by omega)
      unfold ml_fl at H
      rw [hf, if_neg (by decide)] at H
      exact H
    · rw [cm, ek] at z z2
      exact ih n (m + 1) (by omega) (by omega) (ml_al_s ha (decide_eq_true (Or.inr z2)))
theorem mx_ka (M : Nat → Int32) (post : Int32 → Prop) (s : Nat) (hmc : mc ≤ 24) (hkm : ∀ m, m < mc → km m = M m) (H : post (ml_fl (ml_ka M mc s))) : wpX_killsAllThatCanBe post (nI ic, nI tc, nI mc, re, ro, rl, op, ra, rb, cc, tx, ty, te, eo, pl, mo, mk, rg, km) (nI s) :=
  ⟨mc + 1, mx_kaL M post s hmc hkm H mc (mc + 1) 0 (by omega) (by omega) rfl⟩
theorem mx_setsL (M : Nat → Int32) (post : Int32 → SX → Prop) (htc : tc ≤ 6) (hmc : mc ≤ 24) (hkm : ∀ m, m < mc → km m = M m) (H : post (nI (ml_le tc (ml_ka M mc) (2 ^ tc))) (nI ic, nI tc, nI mc, re, ro, rl, op, ra, rb, cc, tx, ty, te, eo, pl, mo, mk, rg, km)) :
    ∀ (d n s : Nat), s + d = 2 ^ tc → d < n → wX_enough_34 post (nI ic) (nI tc) (nI mc) re ro rl op ra rb cc tx ty te eo pl mo mk rg km n (nI (ml_le tc (ml_ka M mc) s)) (nI s) := by
  have h64 : 2 ^ tc ≤ 64 := (ml_szf tc (by omega)).2
  intro d
  induction d with
  | zero =>
    intro n s hs hn
    obtain ⟨n, rfl⟩ : ∃ k, n = k + 1 := ⟨n - 1, by omega⟩
    have e : s = 2 ^ tc := by omega
    subst e
    refine br_t ?_ H
    rw [ml_1sh tc (by omega)]
    exact nI_le (Nat.le_refl _) (by omega)
  | succ d ih =>
    intro n s hs hn
    obtain ⟨n, rfl⟩ : ∃ k, n = k + 1 := ⟨n - 1, by omega⟩
    have hb : ¬ ((1 : Int32) <<< (nI tc &&& 31)) ≤ nI s := by
      rw [ml_1sh tc (by omega)]
      exact nI_ge (by omega) (by omega)
    refine br_f hb (mx_size _ s (by omega) ?_)
    have hle := ml_le_b tc (ml_ka M mc) s
    have hsz := ml_sz6 s
    have G := ih n (s + 1) (by omega) (by omega)
    have e : ml_le tc (ml_ka M mc) (s + 1) = if ml_sz s < ml_le tc (ml_ka M mc) s ∧ ml_ka M mc s = true then ml_sz s else ml_le tc (ml_ka M mc) s := rfl
    rw [e] at G
    refine br_c (fun z => nm_r (nI_1 s) ?_) (fun z => ?_)
    · rw [nI_leI (by omega) (by omega)] at z
      rw [if_neg (fun q => by omega)] at G
      exact G
    · rw [nI_leI (by omega) (by omega)] at z
      refine mx_ka M _ s hmc hkm ?_
      cases hk : ml_ka M mc s with
      | true =>
        rw [if_pos ⟨by omega, hk⟩] at G
        exact br_f (by decide) (nm_r (nI_1 s) G)
      | false =>
        rw [if_neg (fun q => by rw [hk] at q; exact absurd q.2 (by decide))] at G
        exact br_t rfl (nm_r (nI_1 s) G)
theorem mx_fillL (post : Int32 → SX → Prop) (hP : ml_Pr ic ra rb) (htc : tc ≤ 6) (hmc : mc ≤ 24)
    (H : ∀ (re ro rl : Int32) (rg km : Nat → Int32), post (nI (ml_le tc (ml_ka (ml_M ic op ra rb cc pl mo mk tx ty te eo tc) mc) (2 ^ tc))) (nI ic, nI tc, nI mc, re, ro, rl, op, ra, rb, cc, tx, ty, te, eo, pl, mo, mk, rg, km)) :
    ∀ (d n m : Nat) (re ro rl : Int32) (rg km : Nat → Int32), m + d = mc → d < n → (∀ j, j < m → km j = ml_M ic op ra rb cc pl mo mk tx ty te eo tc j) → wX_enough_2 post n (nI m) (nI ic) (nI tc) (nI mc) re ro rl op ra rb cc tx ty te eo pl mo mk rg km := by
  intro d
  induction d with
  | zero =>
    intro n m re ro rl rg km hm hn hk
    obtain ⟨n, rfl⟩ : ∃ k, n = k + 1 := ⟨n - 1, by omega⟩
    have e : m = mc := by omega
    subst e
    exact br_t (nI_le (Nat.le_refl _) (by omega)) ⟨2 ^ tc + 1, mx_setsL (ml_M ic op ra rb cc pl mo mk tx ty te eo tc) post htc hmc hk (H re ro rl rg km) (2 ^ tc) (2 ^ tc + 1) 0 (by omega) (by omega)⟩
  | succ d ih =>
    intro n m re ro rl rg km hm hn hk
    obtain ⟨n, rfl⟩ : ∃ k, n = k + 1 := ⟨n - 1, by omega⟩
    have im : vp_in (nI m) 24 := vp_in_nI (by omega) (by decide)
    have cm : (nI m).toNatClampNeg = m := nI_clamp (by omega)
    refine br_f (nI_ge (by omega) (by omega)) ?_
    refine mx_kil _ m (by omega) hP htc fun re ro rl rg => ?_
    refine ⟨im, fun km' ek => nm_r (nI_1 m) ?_⟩
    rw [cm] at ek
    refine ih n (m + 1) re ro rl rg km' (by omega) (by omega) fun j hj => ?_
    rw [ek]
    by_cases e : j = m
    · subst e; exact pk_us
    · rw [pk_un e]; exact hk j (by omega)
theorem my_kaL (post : Int32 → SY → Prop) (s : Nat) (hP : ml_Pr ic ra rb) (htc : tc ≤ 6) (hmc : mc ≤ 24) (hT : ∀ t, t < tc → ml_Te te eo ex t) (hM : ∀ m, m < mc → ml_Mu ic op cc pl mo mk co ch m)
    (H : ∀ (ye yl : Int32) (yr : Nat → Int32), post (ml_fl (ml_ka (ml_M ic op ra rb cc pl mo mk tx ty te eo tc) mc s)) (nI ic, nI tc, nI mc, ye, yl, op, ra, rb, cc, tx, ty, te, ex, pl, co, ch, yr)) :
    ∀ (d n m : Nat) (ye yl : Int32) (yr : Nat → Int32), m + d = mc → d < n → ml_ka (ml_M ic op ra rb cc pl mo mk tx ty te eo tc) m s = true → wY_killsAll_2 post (nI s) n (nI m) (nI ic) (nI tc) (nI mc) ye yl op ra rb cc tx ty te ex pl co ch yr := by
  intro d
  induction d with
  | zero =>
    intro n m ye yl yr hm hn ha
    obtain ⟨n, rfl⟩ : ∃ k, n = k + 1 := ⟨n - 1, by omega⟩
    have e : m = mc := by omega
    subst e
    have G := H ye yl yr
    unfold ml_fl at G
    rw [if_pos ha] at G
    exact br_t (nI_le (Nat.le_refl _) (by omega)) G
  | succ d ih =>
    intro n m ye yl yr hm hn ha
    obtain ⟨n, rfl⟩ : ∃ k, n = k + 1 := ⟨n - 1, by omega⟩
    refine br_f (nI_ge (by omega) (by omega)) ?_
    refine my_kil (mo := mo) (mk := mk) (eo := eo) _ m (by omega) hmc (hM m (by omega)) hP htc hT fun ye yl yr => ?_
    refine br_c (fun z => nm_r (nI_1 m) ?_) (fun z => br_c (fun z2 => ?_) (fun z2 => nm_r (nI_1 m) ?_))
    · exact ih n (m + 1) ye yl yr (by omega) (by omega) (ml_al_s ha (decide_eq_true (Or.inl z)))
    · have hf : ml_ka (ml_M ic op ra rb cc pl mo mk tx ty te eo tc) mc s = false := ml_al_f (j := m) (decide_eq_false fun q => q.elim z (fun q2 => q2 z2)) mc (by omega)
      have G := H ye yl yr
      unfold ml_fl at G
      rw [hf, if_neg (by decide)] at G
      exact G
    · exact ih n (m + 1) ye yl yr (by omega) (by omega) (ml_al_s ha (decide_eq_true (Or.inr z2)))
theorem my_16 (post : Int32 → SY → Prop) (J : Int32 → Int32 → Int32 → Int32 → Int32 → Int32 → Int32 → (Nat → Int32) → (Nat → Int32) → (Nat → Int32) → (Nat → Int32) → (Nat → Int32) → (Nat → Int32) → (Nat → Int32) → (Nat → Int32) → (Nat → Int32) → (Nat → Int32) → (Nat → Int32) → (Nat → Int32) → Prop)
    (s : Nat) (hs : s < 64) (hP : ml_Pr ic ra rb) (htc : tc ≤ 6) (hmc : mc ≤ 24) (hT : ∀ t, t < tc → ml_Te te eo ex t) (hM : ∀ m, m < mc → ml_Mu ic op cc pl mo mk co ch m)
    (H : ∀ (ye yl : Int32) (yr : Nat → Int32), J (nI (ml_le 6 (ml_ka (ml_M ic op ra rb cc pl mo mk tx ty te eo tc) mc) (s + 1))) (nI (s + 1)) (nI ic) (nI tc) (nI mc) ye yl op ra rb cc tx ty te ex pl co ch yr) :
    ∀ (d n j : Nat), j + d = 6 → d < n → wY_enough_16 post J (nI (ml_le 6 (ml_ka (ml_M ic op ra rb cc pl mo mk tx ty te eo tc) mc) s)) (nI s) (nI ic) (nI tc) (nI mc) ye yl op ra rb cc tx ty te ex pl co ch yr n (ml_si (nI s) j) (nI j) := by
  intro d
  induction d with
  | zero =>
    intro n j hj hn
    obtain ⟨n, rfl⟩ : ∃ k, n = k + 1 := ⟨n - 1, by omega⟩
    have e : j = 6 := by omega
    subst e
    rw [ml_siz s hs]
    have hle := ml_le_b 6 (ml_ka (ml_M ic op ra rb cc pl mo mk tx ty te eo tc) mc) s
    have hsz := ml_sz6 s
    have e : ml_le 6 (ml_ka (ml_M ic op ra rb cc pl mo mk tx ty te eo tc) mc) (s + 1) = if ml_sz s < ml_le 6 (ml_ka (ml_M ic op ra rb cc pl mo mk tx ty te eo tc) mc) s ∧ ml_ka (ml_M ic op ra rb cc pl mo mk tx ty te eo tc) mc s = true then ml_sz s else ml_le 6 (ml_ka (ml_M ic op ra rb cc pl mo mk tx ty te eo tc) mc) s := rfl
    rw [e] at H
    refine br_t (by decide) (br_c (fun z => nm_r (nI_1 s) ?_) (fun z => ?_))
    · rw [nI_leI (by omega) (by omega)] at z
      rw [if_neg (fun q => by omega)] at H
      exact H ye yl yr
    · rw [nI_leI (by omega) (by omega)] at z
      refine ⟨mc + 1, my_kaL (mo := mo) (mk := mk) (eo := eo) _ s hP htc hmc hT hM ?_ mc (mc + 1) 0 ye yl yr (by omega) (by omega) rfl⟩
      intro ye yl yr
      cases hk : ml_ka (ml_M ic op ra rb cc pl mo mk tx ty te eo tc) mc s with
      | true =>
        rw [if_pos ⟨by omega, hk⟩] at H
        exact br_f (by decide) (nm_r (nI_1 s) (H ye yl yr))
      | false =>
        rw [if_neg (fun q => by rw [hk] at q; exact absurd q.2 (by decide))] at H
        exact br_t rfl (nm_r (nI_1 s) (H ye yl yr))
  | succ d ih =>
    intro n j hj hn
    obtain ⟨n, rfl⟩ : ∃ k, n = k + 1 := ⟨n - 1, by omega⟩
    exact br_f (nI_ge (b := 6) (by omega) (by decide)) (nm_e (nm_r (nI_1 j) (ih n (j + 1) (by omega) (by omega))))
theorem my_setsL (post : Int32 → SY → Prop) (hP : ml_Pr ic ra rb) (htc : tc ≤ 6) (hmc : mc ≤ 24) (hT : ∀ t, t < tc → ml_Te te eo ex t) (hM : ∀ m, m < mc → ml_Mu ic op cc pl mo mk co ch m)
    (H : ∀ (ye yl : Int32) (yr : Nat → Int32), post (nI (ml_le 6 (ml_ka (ml_M ic op ra rb cc pl mo mk tx ty te eo tc) mc) 64)) (nI ic, nI tc, nI mc, ye, yl, op, ra, rb, cc, tx, ty, te, ex, pl, co, ch, yr)) :
    ∀ (d n s : Nat) (ye yl : Int32) (yr : Nat → Int32), s + d = 64 → d < n → wY_enough_5 post n (nI (ml_le 6 (ml_ka (ml_M ic op ra rb cc pl mo mk tx ty te eo tc) mc) s)) (nI s) (nI ic) (nI tc) (nI mc) ye yl op ra rb cc tx ty te ex pl co ch yr := by
  intro d
  induction d with
  | zero =>
    intro n s ye yl yr hs hn
    obtain ⟨n, rfl⟩ : ∃ k, n = k + 1 := ⟨n - 1, by omega⟩
    have e : s = 64 := by omega
    subst e
    exact br_t (by decide) (H ye yl yr)
  | succ d ih =>
    intro n s ye yl yr hs hn
    obtain ⟨n, rfl⟩ : ∃ k, n = k + 1 := ⟨n - 1, by omega⟩
    refine br_f (nI_ge (b := 64) (by omega) (by decide)) ⟨7, ?_⟩
    exact my_16 (mo := mo) (mk := mk) (eo := eo) post (wY_enough_5 post n) s (by omega) hP htc hmc hT hM (fun ye yl yr => ih n (s + 1) ye yl yr (by omega) (by omega)) 6 7 0 rfl (by decide)
end
end
section
/-! the relation, and the methods that store -/
def ml_R (ic tc mc : Nat) (op ra rb cc te eo ex pl mo mk co ch : Nat → Int32) : Prop :=
  ml_Pr ic ra rb ∧ tc ≤ 6 ∧ mc ≤ 24 ∧ (∀ t, t < tc → ml_Te te eo ex t) ∧ (∀ m, m < mc → ml_Mu ic op cc pl mo mk co ch m)
/-- counts, program and tests alike; an expected output as kept by the component is 0 where none is expected; a mutant's two copies say what its change says -/
def i_Rel (_ : Nat) (u : SX) (v : SY) : Prop :=
  ∃ (ic tc mc : Nat) (op ra rb cc tx ty te eo ex pl mo mk co ch : Nat → Int32) (re ro rl ye yl : Int32) (rg km yr : Nat → Int32),
    u = (nI ic, nI tc, nI mc, re, ro, rl, op, ra, rb, cc, tx, ty, te, eo, pl, mo, mk, rg, km) ∧ v = (nI ic, nI tc, nI mc, ye, yl, op, ra, rb, cc, tx, ty, te, ex, pl, co, ch, yr) ∧ ml_R ic tc mc op ra rb cc te eo ex pl mo mk co ch
theorem i_up {k : Nat} {u : SX} {v : SY} (h : i_Rel k u v) : i_Rel (k + 4) u v := h
section
variable {ic tc mc : Nat} {op ra rb cc tx ty te eo ex pl mo mk co ch : Nat → Int32} {re ro rl ye yl : Int32} {rg km yr : Nat → Int32}
theorem ml_mk {k : Nat} (R : ml_R ic tc mc op ra rb cc te eo ex pl mo mk co ch) : i_Rel k (nI ic, nI tc, nI mc, re, ro, rl, op, ra, rb, cc, tx, ty, te, eo, pl, mo, mk, rg, km) (nI ic, nI tc, nI mc, ye, yl, op, ra, rb, cc, tx, ty, te, ex, pl, co, ch, yr) :=
  ⟨ic, tc, mc, op, ra, rb, cc, tx, ty, te, eo, ex, pl, mo, mk, co, ch, re, ro, rl, ye, yl, rg, km, yr, rfl, rfl, R⟩
theorem ml_R0 : ml_R 0 0 0 op ra rb cc te eo ex pl mo mk co ch :=
  ⟨⟨by omega, fun p hp => absurd hp (by omega), fun p hp => absurd hp (by omega)⟩, by omega, by omega, fun t ht => absurd ht (by omega), fun m hm => absurd hm (by omega)⟩
theorem ml_clr (R : ml_R ic tc mc op ra rb cc te eo ex pl mo mk co ch) : ml_R ic 0 0 op ra rb cc te eo ex pl mo mk co ch :=
  ⟨R.1, by omega, by omega, fun t ht => absurd ht (by omega), fun m hm => absurd hm (by omega)⟩
theorem ml_Remit (R : ml_R ic tc mc op ra rb cc te eo ex pl mo mk co ch) (hi : ic < 12) (o g c : Int32) :
    ml_R (ic + 1) tc mc (upd op ic o) (upd ra ic (g &&& 3)) (upd rb ic ((g >>> ((2 : Int32) &&& 31)) &&& 3)) (upd cc ic c) te eo ex pl mo mk co ch := by
  obtain ⟨⟨h1, hA, hB⟩, h2, h3, hT, hM⟩ := R
  refine ⟨⟨by omega, fun p hp => ?_, fun p hp => ?_⟩, h2, h3, hT, fun m hm => ?_⟩
  · by_cases e : p = ic
    · subst e
      rw [pk_us]
      exact pk_andE g (m := 3) 2 (by decide)
    · rw [pk_un e]
      exact hA p (by omega)
  · by_cases e : p = ic
    · subst e
      rw [pk_us]
      exact pk_andE _ (m := 3) 2 (by decide)
    · rw [pk_un e]
      exact hB p (by omega)
  · obtain ⟨p, hp, e, h⟩ := hM m hm
    refine ⟨p, by omega, e, ?_⟩
    rw [pk_un (f := op) (show p ≠ ic by omega), pk_un (f := cc) (show p ≠ ic by omega)]
    exact h
theorem ml_Radd (R : ml_R ic tc mc op ra rb cc te eo ex pl mo mk co ch) (ht : tc < 6) (e o o' : Int32) (h : (e = 0 ∧ o = 0) ∨ (e = 1 ∧ o = o')) :
    ml_R ic (tc + 1) mc op ra rb cc (upd te tc e) (upd eo tc o) (upd ex tc o') pl mo mk co ch := by
  obtain ⟨hP, h2, h3, hT, hM⟩ := R
  refine ⟨hP, by omega, h3, fun t h => ?_, hM⟩
  unfold ml_Te
  by_cases z : t = tc
  · subst z
    rw [pk_us, pk_us, pk_us]
    assumption
  · rw [pk_un z, pk_un z, pk_un z]
    exact hT t (by omega)
theorem ml_Rmut (R : ml_R ic tc mc op ra rb cc te eo ex pl mo mk co ch) (hm : mc < 24) (p : Nat) (hp : p < ic) (o c f g : Int32) (h : (f = 0 ∧ o = op p ∧ c = g) ∨ (f = 1 ∧ o = g ∧ c = cc p)) :
    ml_R ic tc (mc + 1) op ra rb cc te eo ex (upd pl mc (nI p)) (upd mo mc o) (upd mk mc c) (upd co mc f) (upd ch mc g) := by
  obtain ⟨hP, h2, h3, hT, hM⟩ := R
  refine ⟨hP, h2, by omega, hT, fun m hm' => ?_⟩
  unfold ml_Mu
  by_cases z : m = mc
  · subst z
    rw [pk_us, pk_us, pk_us, pk_us, pk_us]
    exact ⟨p, hp, rfl, h⟩
  · rw [pk_un z, pk_un z, pk_un z, pk_un z, pk_un z]
    exact hM m (by omega)
theorem ml_nb {e : Int32} (h : e = 0 ∨ e = 1) : vp_nar .boolean e = e := by
  rcases h with rfl | rfl <;> rfl
theorem mx_add (post : Int32 → SX → Prop) (x y e o : Int32) (he : e = 0 ∨ e = 1) (ht : tc < 6)
    (H : post (nI tc) (nI ic, nI (tc + 1), nI mc, re, ro, rl, op, ra, rb, cc, upd tx tc x, upd ty tc y, upd te tc e, upd eo tc o, pl, mo, mk, rg, km)) : wpX_addTest post (nI ic, nI tc, nI mc, re, ro, rl, op, ra, rb, cc, tx, ty, te, eo, pl, mo, mk, rg, km) x y e o := by
  have it : vp_in (nI tc) 6 := vp_in_nI ht (by decide)
  have ct : (nI tc).toNatClampNeg = tc := nI_clamp (by omega)
  refine br_t (nI_lt (b := 6) ht (by decide)) ⟨it, fun a1 e1 => ⟨it, fun a2 e2 => ⟨it, fun a3 e3 => ⟨it, fun a4 e4 => fun f ef => ?_⟩⟩⟩⟩
  rw [ct] at e1 e2 e3 e4
  rw [ml_nb he] at e3
  rw [nI_1] at ef
  subst e1 e2 e3 e4 ef
  exact H
theorem mx_addF (post : Int32 → SX → Prop) (x y e o : Int32) (ht : tc = 6) (H : post (-2) (nI ic, nI tc, nI mc, re, ro, rl, op, ra, rb, cc, tx, ty, te, eo, pl, mo, mk, rg, km)) : wpX_addTest post (nI ic, nI tc, nI mc, re, ro, rl, op, ra, rb, cc, tx, ty, te, eo, pl, mo, mk, rg, km) x y e o := by
  subst ht
  exact br_f (by decide) H
theorem my_add (post : Int32 → SY → Prop) (x y e o : Int32) (he : e = 0 ∨ e = 1) (ht : tc < 6)
    (H : post (nI tc) (nI ic, nI (tc + 1), nI mc, ye, yl, op, ra, rb, cc, upd tx tc x, upd ty tc y, upd te tc e, upd ex tc o, pl, co, ch, yr)) : wpY_add post (nI ic, nI tc, nI mc, ye, yl, op, ra, rb, cc, tx, ty, te, ex, pl, co, ch, yr) x y e o := by
  have it : vp_in (nI tc) 6 := vp_in_nI ht (by decide)
  have ct : (nI tc).toNatClampNeg = tc := nI_clamp (by omega)
  refine ⟨it, fun a1 e1 => ⟨it, fun a2 e2 => ⟨it, fun a3 e3 => ⟨it, fun a4 e4 => fun f ef => ?_⟩⟩⟩⟩
  rw [ct] at e1 e2 e3 e4
  rw [ml_nb he] at e3
  rw [nI_1] at ef
  subst e1 e2 e3 e4 ef
  rw [nI_pred]
  exact H
theorem mx_mut (post : Int32 → SX → Prop) (p o c : Int32) (hm : mc < 24)
    (H : post (nI mc) (nI ic, nI tc, nI (mc + 1), re, ro, rl, op, ra, rb, cc, tx, ty, te, eo, upd pl mc p, upd mo mc o, upd mk mc c, rg, km)) : wpX_addMutant post (nI ic, nI tc, nI mc, re, ro, rl, op, ra, rb, cc, tx, ty, te, eo, pl, mo, mk, rg, km) p o c := by
  have im : vp_in (nI mc) 24 := vp_in_nI hm (by decide)
  have cm : (nI mc).toNatClampNeg = mc := nI_clamp (by omega)
  refine br_t (nI_lt (b := 24) hm (by decide)) ⟨im, fun a1 e1 => ⟨im, fun a2 e2 => ⟨im, fun a3 e3 => fun f ef => ?_⟩⟩⟩
  rw [cm] at e1 e2 e3
  rw [nI_1] at ef
  subst e1 e2 e3 ef
  exact H
theorem mx_mutF (post : Int32 → SX → Prop) (p o c : Int32) (hm : mc = 24) (H : post (-2) (nI ic, nI tc, nI mc, re, ro, rl, op, ra, rb, cc, tx, ty, te, eo, pl, mo, mk, rg, km)) : wpX_addMutant post (nI ic, nI tc, nI mc, re, ro, rl, op, ra, rb, cc, tx, ty, te, eo, pl, mo, mk, rg, km) p o c := by
  subst hm
  exact br_f (by decide) H
theorem my_mut (post : Int32 → SY → Prop) (p f g : Int32) (hf : f = 0 ∨ f = 1) (hm : mc < 24)
    (H : post (nI mc) (nI ic, nI tc, nI (mc + 1), ye, yl, op, ra, rb, cc, tx, ty, te, ex, upd pl mc p, upd co mc f, upd ch mc g, yr)) : wpY_mutate post (nI ic, nI tc, nI mc, ye, yl, op, ra, rb, cc, tx, ty, te, ex, pl, co, ch, yr) p f g := by
  have im : vp_in (nI mc) 24 := vp_in_nI hm (by decide)
  have cm : (nI mc).toNatClampNeg = mc := nI_clamp (by omega)
  have hne : ¬ nI mc = 24 := fun z => absurd ((nI_eq (a := mc) (b := 24) (by omega) (by decide)).mp z) (by omega)
  refine br_f hne ⟨im, fun a1 e1 => ⟨im, fun a2 e2 => ⟨im, fun a3 e3 => fun q eq => ?_⟩⟩⟩
  rw [cm] at e1 e2 e3
  rw [ml_nb hf] at e2
  rw [nI_1] at eq
  subst e1 e2 e3 eq
  rw [nI_pred]
  exact H
theorem my_mutF (post : Int32 → SY → Prop) (p f g : Int32) (hm : mc = 24) (H : post (-2) (nI ic, nI tc, nI mc, ye, yl, op, ra, rb, cc, tx, ty, te, ex, pl, co, ch, yr)) : wpY_mutate post (nI ic, nI tc, nI mc, ye, yl, op, ra, rb, cc, tx, ty, te, ex, pl, co, ch, yr) p f g := by
  subst hm
  exact br_t rfl H
end
theorem i_vc0 : wpX_init (fun u => wpY_init (fun v => i_Rel 0 u v)) :=
  ml_mk (k := 0) (ic := 0) (tc := 0) (mc := 0) (eo := fun _ => 0) (ex := fun _ => 0) ml_R0
theorem i_vc_emit {k : Nat} {u : SX} {v : SY} (I : i_Rel k u v) (hk : k + 4 ≤ 2048) (v1 : Int32) (v2 : Int32) (v3 : Int32) : wpX_emit (fun r u' => wpY_emit (fun r' v' => r' = r ∧ i_Rel (k + 4) u' v') v v1 v2 v3) u v1 v2 v3 := by
  obtain ⟨ic, tc, mc, op, ra, rb, cc, tx, ty, te, eo, ex, pl, mo, mk, co, ch, re, ro, rl, ye, yl, rg, km, yr, rfl, rfl, R⟩ := I
  by_cases h0 : v1 < 0
  · exact br_t h0 (br_t rfl (br_t h0 ⟨rfl, ml_mk R⟩))
  · by_cases h7 : 7 < v1
    · exact br_f h0 (br_t h7 (br_t rfl (br_f h0 (br_f (Int32.not_le.mpr h7) ⟨rfl, ml_mk R⟩))))
    · have h7' : v1 ≤ 7 := Int32.not_lt.mp h7
      have hle := R.1.1
      by_cases hi : ic < 12
      · have ii : vp_in (nI ic) 12 := vp_in_nI hi (by decide)
        have ci : (nI ic).toNatClampNeg = ic := nI_clamp (by omega)
        have hne : ¬ nI ic = 12 := fun z => absurd ((nI_eq (a := ic) (b := 12) (by omega) (by decide)).mp z) (by omega)
        refine br_f h0 (br_f h7 (br_f (by decide) (br_t (nI_lt (b := 12) hi (by decide)) ⟨ii, fun a1 e1 => ⟨ii, fun a2 e2 => ⟨ii, fun a3 e3 => ⟨ii, fun a4 e4 => fun f ef => ?_⟩⟩⟩⟩)))
        refine br_f h0 (br_t h7' (br_f hne ⟨ii, fun b1 g1 => ⟨ii, fun b2 g2 => ⟨ii, fun b3 g3 => ⟨ii, fun b4 g4 => fun f' ef' => ?_⟩⟩⟩⟩))
        rw [ci] at e1 e2 e3 e4 g1 g2 g3 g4
        rw [nI_1] at ef ef'
        subst e1 e2 e3 e4 ef g1 g2 g3 g4 ef'
        exact ⟨nI_pred ic, ml_mk (ml_Remit R hi v1 v2 v3)⟩
      · have e12 : ic = 12 := by omega
        subst e12
        exact br_f h0 (br_f h7 (br_f (by decide) (br_f (by decide) (br_f h0 (br_t h7' (br_t rfl ⟨rfl, ml_mk R⟩))))))
theorem i_vc_test {k : Nat} {u : SX} {v : SY} (I : i_Rel k u v) (hk : k + 4 ≤ 2048) (v1 : Int32) (v2 : Int32) (v3 : Int32) : wpX_test (fun r u' => wpY_test (fun r' v' => r' = r ∧ i_Rel (k + 4) u' v') v v1 v2 v3) u v1 v2 v3 := by
  obtain ⟨ic, tc, mc, op, ra, rb, cc, tx, ty, te, eo, ex, pl, mo, mk, co, ch, re, ro, rl, ye, yl, rg, km, yr, rfl, rfl, R⟩ := I
  have hle := R.2.1
  unfold wpX_test
  by_cases ht : tc < 6
  · have hne : ¬ nI tc = 6 := fun z => absurd ((nI_eq (a := tc) (b := 6) (by omega) (by decide)).mp z) (by omega)
    refine mx_add _ v1 v2 1 v3 (Or.inr rfl) ht ?_
    refine br_f hne ?_
    refine my_add _ v1 v2 1 v3 (Or.inr rfl) ht ?_
    exact ⟨rfl, ml_mk (ml_Radd R ht 1 v3 v3 (Or.inr ⟨rfl, rfl⟩))⟩
  · have e6 : tc = 6 := by omega
    refine mx_addF _ v1 v2 1 v3 e6 ?_
    subst e6
    exact br_t rfl ⟨rfl, ml_mk R⟩
theorem i_vc_snapshotTest {k : Nat} {u : SX} {v : SY} (I : i_Rel k u v) (hk : k + 4 ≤ 2048) (v1 : Int32) (v2 : Int32) : wpX_snapshotTest (fun r u' => wpY_snapshotTest (fun r' v' => r' = r ∧ i_Rel (k + 4) u' v') v v1 v2) u v1 v2 := by
  obtain ⟨ic, tc, mc, op, ra, rb, cc, tx, ty, te, eo, ex, pl, mo, mk, co, ch, re, ro, rl, ye, yl, rg, km, yr, rfl, rfl, R⟩ := I
  have hle := R.2.1
  have hP := R.1
  unfold wpX_snapshotTest
  refine mx_run _ (-1) (Or.inl rfl) hP.1 hP.2.1 hP.2.2 v1 v2 fun w => ?_
  have h01 := ml_E01 ic op ra rb cc pl mo mk (-1) v1 v2
  have he : ml_E ic op ra rb cc pl mo mk (-1) v1 v2 = 0 ∨ ml_E ic op ra rb cc pl mo mk (-1) v1 v2 = 1 := h01.elim (fun h => Or.inl h.1) Or.inr
  by_cases ht : tc < 6
  · have hne : ¬ nI tc = 6 := fun z => absurd ((nI_eq (a := tc) (b := 6) (by omega) (by decide)).mp z) (by omega)
    refine mx_add _ v1 v2 _ _ he ht ?_
    refine br_f hne ?_
    refine my_run (mo := mo) (mk := mk) _ (-1) (Or.inl rfl) hP.1 hP.2.1 hP.2.2 v1 v2 fun w' hw' => ?_
    refine my_add _ v1 v2 _ _ he ht ?_
    refine ⟨rfl, ml_mk (ml_Radd R ht _ _ _ ?_)⟩
    rcases h01 with h | h
    · exact Or.inl h
    · exact Or.inr ⟨h, (hw' h).symm⟩
  · have e6 : tc = 6 := by omega
    refine mx_addF _ v1 v2 _ _ e6 ?_
    subst e6
    exact br_t rfl ⟨rfl, ml_mk R⟩
theorem i_vc_mutateOp {k : Nat} {u : SX} {v : SY} (I : i_Rel k u v) (hk : k + 4 ≤ 2048) (v1 : Int32) (v2 : Int32) : wpX_mutateOp (fun r u' => wpY_mutateOp (fun r' v' => r' = r ∧ i_Rel (k + 4) u' v') v v1 v2) u v1 v2 := by
  obtain ⟨ic, tc, mc, op, ra, rb, cc, tx, ty, te, eo, ex, pl, mo, mk, co, ch, re, ro, rl, ye, yl, rg, km, yr, rfl, rfl, R⟩ := I
  have hi := R.1.1
  have hle := R.2.2.1
  rcases pk_ix v1 (n := ic) (by omega) with h0 | h1 | ⟨p, hp, rfl⟩
  · exact br_t h0 (br_t rfl (br_t h0 ⟨rfl, ml_mk R⟩))
  · by_cases h0 : v1 < 0
    · exact br_t h0 (br_t rfl (br_t h0 ⟨rfl, ml_mk R⟩))
    · exact br_f h0 (br_t h1 (br_t rfl (br_f h0 (br_f (Int32.not_lt.mpr h1) ⟨rfl, ml_mk R⟩))))
  · have p0 : ¬ nI p < 0 := nI_pos (by omega)
    have p1 : ¬ nI ic ≤ nI p := nI_ge hp (by omega)
    have p2 : nI p < nI ic := nI_lt hp (by omega)
    have ip : vp_in (nI p) 12 := vp_in_nI (by omega) (by decide)
    have cp : (nI p).toNatClampNeg = p := nI_clamp (by omega)
    refine br_f p0 (br_f p1 (br_f (by decide) ?_))
    by_cases h0 : v2 < 0
    · exact br_t h0 (br_t rfl (br_f p0 (br_t p2 (br_t h0 ⟨rfl, ml_mk R⟩))))
    · by_cases h7 : 7 < v2
      · exact br_f h0 (br_t h7 (br_t rfl (br_f p0 (br_t p2 (br_f h0 (br_f (Int32.not_le.mpr h7) ⟨rfl, ml_mk R⟩))))))
      · have h7' : v2 ≤ 7 := Int32.not_lt.mp h7
        refine br_f h0 (br_f h7 (br_f (by decide) ⟨ip, ?_⟩))
        by_cases hm : mc < 24
        · refine mx_mut _ (nI p) v2 _ hm ?_
          refine br_f p0 (br_t p2 (br_f h0 (br_t h7' ?_)))
          refine my_mut _ (nI p) 1 v2 (Or.inr rfl) hm ?_
          refine ⟨rfl, ml_mk (ml_Rmut R hm p hp v2 _ 1 v2 (Or.inr ⟨rfl, rfl, ?_⟩))⟩
          rw [cp]
        · have e24 : mc = 24 := by omega
          refine mx_mutF _ (nI p) v2 _ e24 ?_
          refine br_f p0 (br_t p2 (br_f h0 (br_t h7' ?_)))
          exact my_mutF _ (nI p) 1 v2 e24 ⟨rfl, ml_mk R⟩
theorem i_vc_mutateC {k : Nat} {u : SX} {v : SY} (I : i_Rel k u v) (hk : k + 4 ≤ 2048) (v1 : Int32) (v2 : Int32) : wpX_mutateC (fun r u' => wpY_mutateC (fun r' v' => r' = r ∧ i_Rel (k + 4) u' v') v v1 v2) u v1 v2 := by
  obtain ⟨ic, tc, mc, op, ra, rb, cc, tx, ty, te, eo, ex, pl, mo, mk, co, ch, re, ro, rl, ye, yl, rg, km, yr, rfl, rfl, R⟩ := I
  have hi := R.1.1
  have hle := R.2.2.1
  rcases pk_ix v1 (n := ic) (by omega) with h0 | h1 | ⟨p, hp, rfl⟩
  · exact br_t h0 (br_t rfl (br_t h0 ⟨rfl, ml_mk R⟩))
  · by_cases h0 : v1 < 0
    · exact br_t h0 (br_t rfl (br_t h0 ⟨rfl, ml_mk R⟩))
    · exact br_f h0 (br_t h1 (br_t rfl (br_f h0 (br_f (Int32.not_lt.mpr h1) ⟨rfl, ml_mk R⟩))))
  · have p0 : ¬ nI p < 0 := nI_pos (by omega)
    have p1 : ¬ nI ic ≤ nI p := nI_ge hp (by omega)
    have p2 : nI p < nI ic := nI_lt hp (by omega)
    have ip : vp_in (nI p) 12 := vp_in_nI (by omega) (by decide)
    have cp : (nI p).toNatClampNeg = p := nI_clamp (by omega)
    refine br_f p0 (br_f p1 (br_f (by decide) ⟨ip, ?_⟩))
    by_cases hm : mc < 24
    · refine mx_mut _ (nI p) _ v2 hm ?_
      refine br_f p0 (br_t p2 ?_)
      refine my_mut _ (nI p) 0 v2 (Or.inl rfl) hm ?_
      refine ⟨rfl, ml_mk (ml_Rmut R hm p hp _ v2 0 v2 (Or.inl ⟨rfl, ?_, rfl⟩))⟩
      rw [cp]
    · have e24 : mc = 24 := by omega
      refine mx_mutF _ (nI p) _ v2 e24 ?_
      refine br_f p0 (br_t p2 ?_)
      exact my_mutF _ (nI p) 0 v2 e24 ⟨rfl, ml_mk R⟩
theorem i_vc_clear {k : Nat} {u : SX} {v : SY} (I : i_Rel k u v) (hk : k + 4 ≤ 2048) : wpX_clear (fun u' => wpY_clear (fun v' => i_Rel (k + 4) u' v') v) u := by
  obtain ⟨ic, tc, mc, op, ra, rb, cc, tx, ty, te, eo, ex, pl, mo, mk, co, ch, re, ro, rl, ye, yl, rg, km, yr, rfl, rfl, R⟩ := I
  exact ml_mk (k := k + 4) (tc := 0) (mc := 0) (ml_clr R)
end
section
/-! the methods that answer -/
theorem i_vc_passes {k : Nat} {u : SX} {v : SY} (I : i_Rel k u v) (hk : k + 4 ≤ 2048) (v1 : Int32) : wpX_passes (fun r u' => wpY_passes (fun r' v' => r' = r ∧ i_Rel (k + 4) u' v') v v1) u v1 := by
  obtain ⟨ic, tc, mc, op, ra, rb, cc, tx, ty, te, eo, ex, pl, mo, mk, co, ch, re, ro, rl, ye, yl, rg, km, yr, rfl, rfl, R⟩ := I
  have ht6 := R.2.1
  by_cases h0 : v1 < 0
  · exact br_t h0 (br_t rfl (br_t h0 (br_f (by decide) ⟨rfl, ml_mk R⟩)))
  · rcases pk_ix v1 (n := tc) (by omega) with h | h1 | ⟨t, ht, rfl⟩
    · exact absurd h h0
    · exact br_f h0 (br_t h1 (br_t rfl (br_f h0 (br_f (Int32.not_lt.mpr h1) (br_f (by decide) ⟨rfl, ml_mk R⟩)))))
    · refine br_f h0 (br_f (nI_ge ht (by omega)) (br_f (by decide) ?_))
      refine mx_meets _ (-1) (Or.inl rfl) R.1 t (by omega) fun re ro rl rg => ?_
      refine br_c (fun z => ?_) (fun z => ?_)
      · refine br_f h0 (br_t (nI_lt ht (by omega)) (br_t rfl ?_))
        refine my_ok (mo := mo) (mk := mk) (eo := eo) _ (-1) (Or.inl rfl) R.1 t (by omega) (R.2.2.2.1 t ht) fun ye yl yr => ?_
        exact br_t z ⟨rfl, ml_mk R⟩
      · refine br_f h0 (br_t (nI_lt ht (by omega)) (br_t rfl ?_))
        refine my_ok (mo := mo) (mk := mk) (eo := eo) _ (-1) (Or.inl rfl) R.1 t (by omega) (R.2.2.2.1 t ht) fun ye yl yr => ?_
        exact br_f z ⟨rfl, ml_mk R⟩
theorem i_vc_killers {k : Nat} {u : SX} {v : SY} (I : i_Rel k u v) (hk : k + 4 ≤ 2048) (v1 : Int32) : wpX_killers (fun r u' => wpY_killers (fun r' v' => r' = r ∧ i_Rel (k + 4) u' v') v v1) u v1 := by
  obtain ⟨ic, tc, mc, op, ra, rb, cc, tx, ty, te, eo, ex, pl, mo, mk, co, ch, re, ro, rl, ye, yl, rg, km, yr, rfl, rfl, R⟩ := I
  have hm24 := R.2.2.1
  by_cases h0 : v1 < 0
  · exact br_t h0 (br_t rfl (br_t h0 (br_f (by decide) ⟨rfl, ml_mk R⟩)))
  · rcases pk_ix v1 (n := mc) (by omega) with h | h1 | ⟨m, hm, rfl⟩
    · exact absurd h h0
    · exact br_f h0 (br_t h1 (br_t rfl (br_f h0 (br_f (Int32.not_lt.mpr h1) (br_f (by decide) ⟨rfl, ml_mk R⟩)))))
    · refine br_f h0 (br_f (nI_ge hm (by omega)) (br_f (by decide) ?_))
      refine mx_kil _ m (by omega) R.1 R.2.1 fun re ro rl rg => ?_
      refine my_kil (mo := mo) (mk := mk) (eo := eo) _ m hm hm24 (R.2.2.2.2 m hm) R.1 R.2.1 R.2.2.2.1 fun ye yl yr => ?_
      exact ⟨rfl, ml_mk R⟩
theorem i_vc_killed {k : Nat} {u : SX} {v : SY} (I : i_Rel k u v) (hk : k + 4 ≤ 2048) (v1 : Int32) : wpX_killed (fun r u' => wpY_killed (fun r' v' => r' = r ∧ i_Rel (k + 4) u' v') v v1) u v1 := by
  obtain ⟨ic, tc, mc, op, ra, rb, cc, tx, ty, te, eo, ex, pl, mo, mk, co, ch, re, ro, rl, ye, yl, rg, km, yr, rfl, rfl, R⟩ := I
  have hm24 := R.2.2.1
  refine ⟨mc + 1, mx_killedL _ v1 R.1 R.2.1 hm24 ?_ mc (mc + 1) 0 re ro rl rg (by omega) (by omega)⟩
  intro re ro rl rg
  refine ⟨mc + 1, my_killedL (mo := mo) (mk := mk) (eo := eo) _ v1 R.1 R.2.1 hm24 R.2.2.2.1 R.2.2.2.2 ?_ mc (mc + 1) 0 ye yl yr (by omega) (by omega)⟩
  intro ye yl yr
  exact ⟨rfl, ml_mk R⟩
theorem i_vc_output {k : Nat} {u : SX} {v : SY} (I : i_Rel k u v) (hk : k + 4 ≤ 2048) (v1 : Int32) (v2 : Int32) : wpX_output (fun r u' => wpY_output (fun r' v' => r' = r ∧ i_Rel (k + 4) u' v') v v1 v2) u v1 v2 := by
  obtain ⟨ic, tc, mc, op, ra, rb, cc, tx, ty, te, eo, ex, pl, mo, mk, co, ch, re, ro, rl, ye, yl, rg, km, yr, rfl, rfl, R⟩ := I
  have hm24 := R.2.2.1
  have ht6 := R.2.1
  by_cases h0 : v1 < 0
  · exact br_t h0 (br_t rfl (br_t h0 (br_f (by decide) ⟨rfl, ml_mk R⟩)))
  · rcases pk_ix v1 (n := mc) (by omega) with h | h1 | ⟨m, hm, rfl⟩
    · exact absurd h h0
    · exact br_f h0 (br_t h1 (br_t rfl (br_f h0 (br_f (Int32.not_lt.mpr h1) (br_f (by decide) ⟨rfl, ml_mk R⟩)))))
    · refine br_f h0 (br_f (nI_ge hm (by omega)) (br_f (by decide) ?_))
      have m2 : nI m < nI mc := nI_lt hm (by omega)
      by_cases g0 : v2 < 0
      · exact br_t g0 (br_t rfl (br_f h0 (br_t m2 (br_t rfl (br_t g0 (br_f (by decide) ⟨rfl, ml_mk R⟩))))))
      · rcases pk_ix v2 (n := tc) (by omega) with h | g1 | ⟨t, ht, rfl⟩
        · exact absurd h g0
        · exact br_f g0 (br_t g1 (br_t rfl (br_f h0 (br_t m2 (br_t rfl (br_f g0 (br_f (Int32.not_lt.mpr g1) (br_f (by decide) ⟨rfl, ml_mk R⟩))))))))
        · have it : vp_in (nI t) 6 := vp_in_nI (by omega) (by decide)
          have ct : (nI t).toNatClampNeg = t := nI_clamp (by omega)
          refine br_f g0 (br_f (nI_ge ht (by omega)) (br_f (by decide) ⟨it, it, ?_⟩))
          rw [ct]
          refine mx_run _ (nI m) (Or.inr ⟨m, by omega, rfl⟩) R.1.1 R.1.2.1 R.1.2.2 (tx t) (ty t) fun w => ?_
          refine br_f h0 (br_t m2 (br_t rfl (br_f g0 (br_t (nI_lt ht (by omega)) (br_t rfl ⟨it, it, ?_⟩)))))
          rw [ct]
          refine my_run (mo := mo) (mk := mk) _ (nI m) (Or.inr ⟨m, by omega, rfl, R.2.2.2.2 m hm⟩) R.1.1 R.1.2.1 R.1.2.2 (tx t) (ty t) fun w' hw' => ?_
          rcases ml_E01 ic op ra rb cc pl mo mk (nI m) (tx t) (ty t) with ⟨e, o⟩ | e
          · exact br_t e ⟨o.symm, ml_mk R⟩
          · exact br_f (by rw [e]; decide) ⟨hw' e, ml_mk R⟩
theorem i_vc_length {k : Nat} {u : SX} {v : SY} (I : i_Rel k u v) (hk : k + 4 ≤ 2048) (v1 : Int32) (v2 : Int32) : wpX_length (fun r u' => wpY_length (fun r' v' => r' = r ∧ i_Rel (k + 4) u' v') v v1 v2) u v1 v2 := by
  obtain ⟨ic, tc, mc, op, ra, rb, cc, tx, ty, te, eo, ex, pl, mo, mk, co, ch, re, ro, rl, ye, yl, rg, km, yr, rfl, rfl, R⟩ := I
  have hm24 := R.2.2.1
  have ht6 := R.2.1
  by_cases h0 : v1 < 0
  · exact br_t h0 (br_t rfl (br_t h0 (br_f (by decide) ⟨rfl, ml_mk R⟩)))
  · rcases pk_ix v1 (n := mc) (by omega) with h | h1 | ⟨m, hm, rfl⟩
    · exact absurd h h0
    · exact br_f h0 (br_t h1 (br_t rfl (br_f h0 (br_f (Int32.not_lt.mpr h1) (br_f (by decide) ⟨rfl, ml_mk R⟩)))))
    · refine br_f h0 (br_f (nI_ge hm (by omega)) (br_f (by decide) ?_))
      have m2 : nI m < nI mc := nI_lt hm (by omega)
      by_cases g0 : v2 < 0
      · exact br_t g0 (br_t rfl (br_f h0 (br_t m2 (br_t rfl (br_t g0 (br_f (by decide) ⟨rfl, ml_mk R⟩))))))
      · rcases pk_ix v2 (n := tc) (by omega) with h | g1 | ⟨t, ht, rfl⟩
        · exact absurd h g0
        · exact br_f g0 (br_t g1 (br_t rfl (br_f h0 (br_t m2 (br_t rfl (br_f g0 (br_f (Int32.not_lt.mpr g1) (br_f (by decide) ⟨rfl, ml_mk R⟩))))))))
        · have it : vp_in (nI t) 6 := vp_in_nI (by omega) (by decide)
          have ct : (nI t).toNatClampNeg = t := nI_clamp (by omega)
          refine br_f g0 (br_f (nI_ge ht (by omega)) (br_f (by decide) ⟨it, it, ?_⟩))
          rw [ct]
          refine mx_run _ (nI m) (Or.inr ⟨m, by omega, rfl⟩) R.1.1 R.1.2.1 R.1.2.2 (tx t) (ty t) fun w => ?_
          refine br_f h0 (br_t m2 (br_t rfl (br_f g0 (br_t (nI_lt ht (by omega)) (br_t rfl ⟨it, it, ?_⟩)))))
          rw [ct]
          refine my_run (mo := mo) (mk := mk) _ (nI m) (Or.inr ⟨m, by omega, rfl, R.2.2.2.2 m hm⟩) R.1.1 R.1.2.1 R.1.2.2 (tx t) (ty t) fun w' hw' => ?_
          exact ⟨rfl, ml_mk R⟩
theorem i_vc_enough {k : Nat} {u : SX} {v : SY} (I : i_Rel k u v) (hk : k + 4 ≤ 2048) : wpX_enough (fun r u' => wpY_enough (fun r' v' => r' = r ∧ i_Rel (k + 4) u' v') v) u := by
  obtain ⟨ic, tc, mc, op, ra, rb, cc, tx, ty, te, eo, ex, pl, mo, mk, co, ch, re, ro, rl, ye, yl, rg, km, yr, rfl, rfl, R⟩ := I
  have hm24 := R.2.2.1
  refine ⟨mc + 1, mx_fillL _ R.1 R.2.1 hm24 ?_ mc (mc + 1) 0 re ro rl rg km (by omega) (by omega) (fun j hj => absurd hj (by omega))⟩
  intro re ro rl rg km
  refine ⟨65, my_setsL (mo := mo) (mk := mk) (eo := eo) _ R.1 R.2.1 hm24 R.2.2.2.1 R.2.2.2.2 ?_ 64 65 0 ye yl yr rfl (by decide)⟩
  intro ye yl yr
  refine ⟨?_, ml_mk R⟩
  rw [ml_least (M := ml_M ic op ra rb cc pl mo mk tx ty te eo tc) R.2.1 (fun m _ => ml_mask_b _ tc R.2.1)]
theorem i_vc_same {k : Nat} {u : SX} {v : SY} (I : i_Rel k u v) (hk : k + 4 ≤ 2048) : wpX_same (fun r u' => wpY_same (fun r' v' => r' = r ∧ i_Rel (k + 4) u' v') v) u := by
  obtain ⟨ic, tc, mc, op, ra, rb, cc, tx, ty, te, eo, ex, pl, mo, mk, co, ch, re, ro, rl, ye, yl, rg, km, yr, rfl, rfl, R⟩ := I
  have hm24 := R.2.2.1
  refine ⟨mc + 1, mx_sameL _ R.1 R.2.1 hm24 ?_ mc (mc + 1) 0 re ro rl rg (by omega) (by omega)⟩
  intro re ro rl rg
  refine ⟨mc + 1, my_sameL (mo := mo) (mk := mk) _ R.1 R.2.1 hm24 R.2.2.2.2 ?_ mc (mc + 1) 0 ye yl yr (by omega) (by omega)⟩
  intro ye yl yr
  exact ⟨rfl, ml_mk R⟩
end
