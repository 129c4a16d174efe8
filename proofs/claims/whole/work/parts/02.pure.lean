/-! the run as a pure function -/
def ml_next (o : Int32) (a b : Nat) (c : Int32) (p : Nat) (r : Nat → Int32) : Int32 :=
  if o = 5 then (if r b ≤ r a then nI (p + 1) else c) else if o = 6 then (if r a = 0 then c else nI (p + 1)) else nI (p + 1)
def ml_regs (o : Int32) (a b : Nat) (c : Int32) (r : Nat → Int32) : Nat → Int32 :=
  if o = 0 then upd r a c else if o = 1 then upd r a (r a + r b) else if o = 2 then upd r a (r a - r b) else if o = 3 then upd r a (r a * r b) else if o = 4 then upd r a (if r a ≤ r b then r a else r b) else if o = 5 then r else if o = 6 then r else upd r a (r a + c)
def ml_go (ic : Nat) (O C A B : Nat → Int32) : Nat → Int32 → (Nat → Int32) → Nat → Int32 × (Nat → Int32) × Nat
  | 0, p, r, s => (p, r, s)
  | d + 1, p, r, s => if p < 0 ∨ nI ic ≤ p then (p, r, s) else
      ml_go ic O C A B d (ml_next (O p.toNatClampNeg) (A p.toNatClampNeg).toNatClampNeg (B p.toNatClampNeg).toNatClampNeg (C p.toNatClampNeg) p.toNatClampNeg r) (ml_regs (O p.toNatClampNeg) (A p.toNatClampNeg).toNatClampNeg (B p.toNatClampNeg).toNatClampNeg (C p.toNatClampNeg) r) (s + 1)
def ml_eff (pl g f : Nat → Int32) (mu : Int32) : Nat → Int32 := fun p => if mu = -1 then f p else if pl mu.toNatClampNeg = nI p then g mu.toNatClampNeg else f p
def ml_r0 (x y : Int32) : Nat → Int32 := fun j => if j = 0 then x else if j = 1 then y else 0
def ml_fin (ic : Nat) (op ra rb cc pl mo mk : Nat → Int32) (mu x y : Int32) : Int32 × (Nat → Int32) × Nat :=
  ml_go ic (ml_eff pl mo op mu) (ml_eff pl mk cc mu) ra rb 100 0 (ml_r0 x y) 0
def ml_E (ic : Nat) (op ra rb cc pl mo mk : Nat → Int32) (mu x y : Int32) : Int32 :=
  if (ml_fin ic op ra rb cc pl mo mk mu x y).1 < 0 ∨ nI ic ≤ (ml_fin ic op ra rb cc pl mo mk mu x y).1 then 1 else 0
def ml_O (ic : Nat) (op ra rb cc pl mo mk : Nat → Int32) (mu x y : Int32) : Int32 :=
  if (ml_fin ic op ra rb cc pl mo mk mu x y).1 < 0 ∨ nI ic ≤ (ml_fin ic op ra rb cc pl mo mk mu x y).1 then (ml_fin ic op ra rb cc pl mo mk mu x y).2.1 0 else 0
def ml_L (ic : Nat) (op ra rb cc pl mo mk : Nat → Int32) (mu x y : Int32) : Int32 := nI (ml_fin ic op ra rb cc pl mo mk mu x y).2.2
def ml_ok (ic : Nat) (op ra rb cc pl mo mk tx ty te eo : Nat → Int32) (mu : Int32) (t : Nat) : Int32 :=
  if ml_E ic op ra rb cc pl mo mk mu (tx t) (ty t) = te t then (if ml_O ic op ra rb cc pl mo mk mu (tx t) (ty t) = eo t then 1 else 0) else 0
def ml_mask (f : Nat → Int32) : Nat → Int32
  | 0 => 0
  | t + 1 => if f t = 0 then ml_mask f t ||| ((1 : Int32) <<< (nI t &&& 31)) else ml_mask f t
def ml_M (ic : Nat) (op ra rb cc pl mo mk tx ty te eo : Nat → Int32) (tc : Nat) (m : Nat) : Int32 := ml_mask (ml_ok ic op ra rb cc pl mo mk tx ty te eo (nI m)) tc
theorem ml_E01 (ic : Nat) (op ra rb cc pl mo mk : Nat → Int32) (mu x y : Int32) : (ml_E ic op ra rb cc pl mo mk mu x y = 0 ∧ ml_O ic op ra rb cc pl mo mk mu x y = 0) ∨ ml_E ic op ra rb cc pl mo mk mu x y = 1 := by
  unfold ml_E ml_O
  by_cases h : (ml_fin ic op ra rb cc pl mo mk mu x y).1 < 0 ∨ nI ic ≤ (ml_fin ic op ra rb cc pl mo mk mu x y).1
  · right; rw [if_pos h]
  · left; rw [if_neg h, if_neg h]; exact ⟨rfl, rfl⟩
theorem ml_ok01 (ic : Nat) (op ra rb cc pl mo mk tx ty te eo : Nat → Int32) (mu : Int32) (t : Nat) : ml_ok ic op ra rb cc pl mo mk tx ty te eo mu t = 0 ∨ ml_ok ic op ra rb cc pl mo mk tx ty te eo mu t = 1 := by
  unfold ml_ok
  split
  · split
    · exact Or.inr rfl
    · exact Or.inl rfl
  · exact Or.inl rfl
/-! the step, code by code -/
theorem ml_ag {r s : Nat → Int32} {a : Nat} {v w : Int32} (h : ∀ j, j < 4 → s j = r j) (e : v = w) : ∀ j, j < 4 → upd s a v j = upd r a w j := by
  intro j hj
  unfold upd
  by_cases z : j = a
  · rw [if_pos z, if_pos z]; exact e
  · rw [if_neg z, if_neg z]; exact h j hj
theorem ml_codes (o : Int32) : (o < 0 ∨ 6 < o) ∨ o = 0 ∨ o = 1 ∨ o = 2 ∨ o = 3 ∨ o = 4 ∨ o = 5 ∨ o = 6 := by
  by_cases h0 : o < 0
  · exact Or.inl (Or.inl h0)
  · by_cases h6 : 6 < o
    · exact Or.inl (Or.inr h6)
    · right
      obtain ⟨j, hj, rfl⟩ := nI_of2 (M := 6) (n := 6) (by decide) h0 (Int32.not_lt.mp h6)
      match j, hj with
      | 0, _ => exact Or.inl rfl
      | 1, _ => exact Or.inr (Or.inl rfl)
      | 2, _ => exact Or.inr (Or.inr (Or.inl rfl))
      | 3, _ => exact Or.inr (Or.inr (Or.inr (Or.inl rfl)))
      | 4, _ => exact Or.inr (Or.inr (Or.inr (Or.inr (Or.inl rfl))))
      | 5, _ => exact Or.inr (Or.inr (Or.inr (Or.inr (Or.inr (Or.inl rfl)))))
      | 6, _ => exact Or.inr (Or.inr (Or.inr (Or.inr (Or.inr (Or.inr rfl)))))
      | (k + 7), hk => exact absurd hk (by omega)
theorem ml_ne {o k : Int32} (h : o < 0 ∨ 6 < o) (hk : ¬ (k < 0 ∨ 6 < k)) : ¬ o = k := fun e => hk (e ▸ h)
theorem ml_n0 (a b : Nat) (c : Int32) (p : Nat) (r : Nat → Int32) : ml_next 0 a b c p r = nI (p + 1) := by unfold ml_next; rw [if_neg (by decide), if_neg (by decide)]
theorem ml_n1 (a b : Nat) (c : Int32) (p : Nat) (r : Nat → Int32) : ml_next 1 a b c p r = nI (p + 1) := by unfold ml_next; rw [if_neg (by decide), if_neg (by decide)]
theorem ml_n2 (a b : Nat) (c : Int32) (p : Nat) (r : Nat → Int32) : ml_next 2 a b c p r = nI (p + 1) := by unfold ml_next; rw [if_neg (by decide), if_neg (by decide)]
theorem ml_n3 (a b : Nat) (c : Int32) (p : Nat) (r : Nat → Int32) : ml_next 3 a b c p r = nI (p + 1) := by unfold ml_next; rw [if_neg (by decide), if_neg (by decide)]
theorem ml_n4 (a b : Nat) (c : Int32) (p : Nat) (r : Nat → Int32) : ml_next 4 a b c p r = nI (p + 1) := by unfold ml_next; rw [if_neg (by decide), if_neg (by decide)]
theorem ml_n5 (a b : Nat) (c : Int32) (p : Nat) (r : Nat → Int32) : ml_next 5 a b c p r = if r b ≤ r a then nI (p + 1) else c := by unfold ml_next; rw [if_pos rfl]
theorem ml_n6 (a b : Nat) (c : Int32) (p : Nat) (r : Nat → Int32) : ml_next 6 a b c p r = if r a = 0 then c else nI (p + 1) := by unfold ml_next; rw [if_neg (by decide), if_pos rfl]
theorem ml_n7 {o : Int32} (h : o < 0 ∨ 6 < o) (a b : Nat) (c : Int32) (p : Nat) (r : Nat → Int32) : ml_next o a b c p r = nI (p + 1) := by unfold ml_next; rw [if_neg (ml_ne h (by decide)), if_neg (ml_ne h (by decide))]
theorem ml_r_0 (a b : Nat) (c : Int32) (r : Nat → Int32) : ml_regs 0 a b c r = upd r a c := by unfold ml_regs; rw [if_pos rfl]
theorem ml_r_1 (a b : Nat) (c : Int32) (r : Nat → Int32) : ml_regs 1 a b c r = upd r a (r a + r b) := by unfold ml_regs; rw [if_neg (by decide), if_pos rfl]
theorem ml_r_2 (a b : Nat) (c : Int32) (r : Nat → Int32) : ml_regs 2 a b c r = upd r a (r a - r b) := by unfold ml_regs; rw [if_neg (by decide), if_neg (by decide), if_pos rfl]
theorem ml_r_3 (a b : Nat) (c : Int32) (r : Nat → Int32) : ml_regs 3 a b c r = upd r a (r a * r b) := by unfold ml_regs; rw [if_neg (by decide), if_neg (by decide), if_neg (by decide), if_pos rfl]
theorem ml_r_4 (a b : Nat) (c : Int32) (r : Nat → Int32) : ml_regs 4 a b c r = upd r a (if r a ≤ r b then r a else r b) := by unfold ml_regs; rw [if_neg (by decide), if_neg (by decide), if_neg (by decide), if_neg (by decide), if_pos rfl]
theorem ml_r_5 (a b : Nat) (c : Int32) (r : Nat → Int32) : ml_regs 5 a b c r = r := by unfold ml_regs; rw [if_neg (by decide), if_neg (by decide), if_neg (by decide), if_neg (by decide), if_neg (by decide), if_pos rfl]
theorem ml_r_6 (a b : Nat) (c : Int32) (r : Nat → Int32) : ml_regs 6 a b c r = r := by unfold ml_regs; rw [if_neg (by decide), if_neg (by decide), if_neg (by decide), if_neg (by decide), if_neg (by decide), if_neg (by decide), if_pos rfl]
theorem ml_r_7 {o : Int32} (h : o < 0 ∨ 6 < o) (a b : Nat) (c : Int32) (r : Nat → Int32) : ml_regs o a b c r = upd r a (r a + c) := by
  unfold ml_regs
  rw [if_neg (ml_ne h (by decide)), if_neg (ml_ne h (by decide)), if_neg (ml_ne h (by decide)), if_neg (ml_ne h (by decide)), if_neg (ml_ne h (by decide)), if_neg (ml_ne h (by decide)), if_neg (ml_ne h (by decide))]
theorem ml_go0 (ic : Nat) (O C A B : Nat → Int32) (p : Int32) (r : Nat → Int32) (s : Nat) : ml_go ic O C A B 0 p r s = (p, r, s) := rfl
theorem ml_goOut (ic : Nat) (O C A B : Nat → Int32) (d : Nat) (p : Int32) (r : Nat → Int32) (s : Nat) (h : p < 0 ∨ nI ic ≤ p) : ml_go ic O C A B d p r s = (p, r, s) := by
  cases d with
  | zero => rfl
  | succ d => unfold ml_go; rw [if_pos h]
theorem ml_goIn (ic : Nat) (O C A B : Nat → Int32) (d q a b : Nat) (r : Nat → Int32) (s : Nat) (hq : q < ic) (hi : ic ≤ 12) (ha : a < 4) (hb : b < 4) (ea : A q = nI a) (eb : B q = nI b) :
    ml_go ic O C A B (d + 1) (nI q) r s = ml_go ic O C A B d (ml_next (O q) a b (C q) q r) (ml_regs (O q) a b (C q) r) (s + 1) := by
  have h : ¬ (nI q < 0 ∨ nI ic ≤ nI q) := by
    intro z
    rcases z with z | z
    · exact nI_pos (by omega) z
    · exact nI_ge hq (by omega) z
  rw [ml_go, if_neg h, nI_clamp (n := q) (by omega), ea, eb, nI_clamp (n := a) (by omega), nI_clamp (n := b) (by omega)]
