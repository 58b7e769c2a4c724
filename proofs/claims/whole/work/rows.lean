section
theorem pk_us {f : Nat → Int32} {k : Nat} {x : Int32} : upd f k x k = x := if_pos rfl
theorem pk_un {f : Nat → Int32} {k j : Nat} {x : Int32} (h : j ≠ k) : upd f k x j = f j := if_neg h
theorem pk_sub {a b : Nat} (h : b ≤ a) : nI a - nI b = nI (a - b) := by
  obtain ⟨c, rfl⟩ : ∃ c, a = c + b := ⟨a - b, by omega⟩
  rw [← nI_add, Int32.add_sub_cancel, Nat.add_sub_cancel]
theorem pk_m1 (n : Nat) : nI (n + 1) + (-1) = nI n := by
  rw [← nI_1, Int32.add_assoc, show (1 : Int32) + (-1) = 0 from rfl, Int32.add_zero]
theorem pk_mul (a b : Nat) : nI a * nI b = nI (a * b) := (Int32.ofNat_mul a b).symm
theorem pk_div {a d : Nat} (ha : a < 2 ^ 31) (h0 : 0 < d) (hd : d < 2 ^ 31) : nI a / nI d = nI (a / d) := by
  apply Int32.toInt_inj.mp
  rw [lg_idiv_nonneg (by rw [nI_toInt ha]; omega) (by rw [nI_toInt hd]; omega), nI_toInt ha, nI_toInt hd, nI_toInt (Nat.lt_of_le_of_lt (Nat.div_le_self a d) ha)]
  first | rfl | exact (Int.natCast_ediv _ _).symm
theorem pk_rem {a d : Nat} (ha : a < 2 ^ 31) (h0 : 0 < d) (hd : d < 2 ^ 31) : nI a - nI a / nI d * nI d = nI (a % d) := by
  rw [pk_div ha h0 hd, pk_mul, pk_sub (Nat.div_mul_le_self a d)]
  exact congrArg nI (by have := Nat.div_add_mod' a d; omega)
theorem pk_ix (x : Int32) {n : Nat} (hn : n < 2 ^ 31) : x < 0 ∨ nI n ≤ x ∨ ∃ j : Nat, j < n ∧ x = nI j := by
  by_cases h : x < 0
  · exact Or.inl h
  · obtain ⟨j, hj, rfl⟩ := nI_of h
    by_cases h2 : j < n
    · exact Or.inr (Or.inr ⟨j, h2, rfl⟩)
    · exact Or.inr (Or.inl (nI_le (by omega) hj))
theorem pk_le {x y : Int32} {A B : Prop} (a b : Nat) (f : a ≤ b → A) (g : b < a → B) (hx : x = nI a := by rfl) (hy : y = nI b := by rfl) (ha : a < 2 ^ 31 := by omega) (hb : b < 2 ^ 31 := by omega) : (x ≤ y → A) ∧ (¬ x ≤ y → B) := by
  subst hx hy
  rw [nI_leI ha hb]
  exact ⟨f, fun z => g (by omega)⟩
theorem pk_lt {x y : Int32} {A B : Prop} (a b : Nat) (f : a < b → A) (g : b ≤ a → B) (hx : x = nI a := by rfl) (hy : y = nI b := by rfl) (ha : a < 2 ^ 31 := by omega) (hb : b < 2 ^ 31 := by omega) : (x < y → A) ∧ (¬ x < y → B) := by
  subst hx hy
  rw [nI_ltI ha hb]
  exact ⟨f, fun z => g (by omega)⟩
theorem pk_eq {x y : Int32} {A B : Prop} (a b : Nat) (f : a = b → A) (g : a ≠ b → B) (hx : x = nI a := by rfl) (hy : y = nI b := by rfl) (ha : a < 2 ^ 31 := by omega) (hb : b < 2 ^ 31 := by omega) : (x = y → A) ∧ (¬ x = y → B) := by
  subst hx hy
  rw [nI_eq ha hb]
  exact ⟨f, g⟩
theorem pk_in {x : Int32} (n N : Nat) (h : n < N) (hx : x = nI n := by rfl) (hN : N < 2 ^ 31 := by omega) : vp_in x N := by
  subst hx
  exact vp_in_nI h hN
theorem pk_cl {x : Int32} (n : Nat) (hx : x = nI n := by rfl) (h : n < 2 ^ 31 := by omega) : x.toNatClampNeg = n := by
  subst hx
  exact nI_clamp h
theorem pk_tn {n : Nat} (h : n < 2 ^ 32) : (nI n).toBitVec.toNat = n := Nat.mod_eq_of_lt h
theorem pk_and (x : Int32) {m : Int32} (k : Nat) (hm : m.toBitVec.toNat = 2 ^ k - 1) : x &&& m = nI (x.toBitVec.toNat % 2 ^ k) := by
  apply Int32.toBitVec_inj.mp
  apply BitVec.eq_of_toNat_eq
  rw [Int32.toBitVec_and, BitVec.toNat_and, hm, Nat.and_two_pow_sub_one_eq_mod]
  show _ = (BitVec.ofNat 32 _).toNat
  rw [BitVec.toNat_ofNat]
  exact (Nat.mod_eq_of_lt (Nat.lt_of_le_of_lt (Nat.mod_le _ _) x.toBitVec.isLt)).symm
theorem pk_andN {n : Nat} (h : n < 2 ^ 32) {m : Int32} (k : Nat) (hm : m.toBitVec.toNat = 2 ^ k - 1) : nI n &&& m = nI (n % 2 ^ k) := by
  rw [pk_and _ k hm, pk_tn h]
theorem pk_andE (x : Int32) {m : Int32} (k : Nat) (hm : m.toBitVec.toNat = 2 ^ k - 1) : ∃ j : Nat, j < 2 ^ k ∧ x &&& m = nI j := ⟨_, Nat.mod_lt _ (Nat.two_pow_pos k), pk_and x k hm⟩
theorem pk_andIn (x : Int32) {m : Int32} (k : Nat) (hm : m.toBitVec.toNat = 2 ^ k - 1) (hk : k ≤ 30) : vp_in (x &&& m) (2 ^ k) := by
  obtain ⟨j, hj, e⟩ := pk_andE x k hm
  rw [e]
  exact vp_in_nI hj (Nat.lt_of_le_of_lt (Nat.pow_le_pow_right (by decide) hk) (by decide))
theorem pk_charN {q : Nat} (hq : q < 65536) : narrow .char (.int (nI q)) = .int (nI q) ∧ fits .char (.int (nI q)) = true := by
  constructor
  · have e : (nI q).toUInt32.toUInt16.toUInt32.toInt32 = nI q := by
      apply Int32.toBitVec_inj.mp
      apply BitVec.eq_of_toNat_eq
      show (nI q).toUInt32.toUInt16.toUInt32.toNat = q % 2 ^ 32
      rw [UInt16.toNat_toUInt32, UInt32.toNat_toUInt16, show (nI q).toUInt32.toNat = q % 2 ^ 32 from rfl]
      omega
    exact congrArg Value.int e
  · have a : (0 : Int32) ≤ nI q := nI_pos' (by omega)
    have b : nI q ≤ 65535 := nI_le (b := 65535) (by omega) (by decide)
    show (decide ((0 : Int32) ≤ nI q) && decide (nI q ≤ 65535)) = true
    rw [decide_eq_true a, decide_eq_true b]
    rfl
theorem pk_char (x : Int32) : (x.toUInt32 % 65536).toInt32 = nI (x.toBitVec.toNat % 65536) := by
  apply Int32.toBitVec_inj.mp
  apply BitVec.eq_of_toNat_eq
  rw [pk_tn (by omega)]
  show (x.toUInt32 % 65536).toNat = _
  rw [UInt32.toNat_mod]
  rfl
theorem pk_nc (x : Int32) : narrow .char (.int (x.toUInt32 % 65536).toInt32) = .int (x.toUInt32 % 65536).toInt32 := by
  rw [pk_char]
  exact (pk_charN (Nat.mod_lt _ (by decide))).1
theorem pk_fc (x : Int32) : fits .char (.int (x.toUInt32 % 65536).toInt32) = true := by
  rw [pk_char]
  exact (pk_charN (Nat.mod_lt _ (by decide))).2
theorem pk_vc (z : Int32) : vp_nar .char (z.toUInt32 % 65536).toInt32 = (z.toUInt32 % 65536).toInt32 := Value.int.inj (pk_nc z)
theorem pk_lT {n : Nat} (h : n < 2 ^ 63) : (lN n).toInt = (n : Int) := lg_ofNat_toInt h
theorem pk_lLT {a b : Nat} (ha : a < 2 ^ 63) (hb : b < 2 ^ 63) : lN a < lN b ↔ a < b := by
  rw [Int64.lt_iff_toInt_lt, pk_lT ha, pk_lT hb]; omega
theorem pk_lLE {a b : Nat} (ha : a < 2 ^ 63) (hb : b < 2 ^ 63) : lN a ≤ lN b ↔ a ≤ b := by
  rw [Int64.le_iff_toInt_le, pk_lT ha, pk_lT hb]; omega
theorem pk_lEQ {a b : Nat} (ha : a < 2 ^ 63) (hb : b < 2 ^ 63) : lN a = lN b ↔ a = b := by
  rw [← Int64.toInt_inj, pk_lT ha, pk_lT hb]; omega
theorem pk_lOf {x : Int64} (h : ¬ x < 0) : ∃ k : Nat, k < 2 ^ 63 ∧ x = lN k := by
  rw [Int64.lt_iff_toInt_lt] at h
  have h0 : (0 : Int64).toInt = 0 := by decide
  have hx := Int64.toInt_lt x
  refine ⟨x.toInt.toNat, by omega, Int64.toInt_inj.mp ?_⟩
  rw [pk_lT (by omega)]
  omega
theorem pk_lDiv {a b : Nat} (ha : a < 2 ^ 63) (h0 : 0 < b) (hb : b < 2 ^ 63) : lN a / lN b = lN (a / b) := by
  apply Int64.toInt_inj.mp
  rw [lg_ldiv_nonneg (by rw [pk_lT ha]; omega) (by rw [pk_lT hb]; omega), pk_lT ha, pk_lT hb, pk_lT (Nat.lt_of_le_of_lt (Nat.div_le_self a b) ha)]
  rfl
theorem pk_lRem {a b : Nat} (ha : a < 2 ^ 63) (h0 : 0 < b) (hb : b < 2 ^ 63) : lN a - lN a / lN b * lN b = lN (a % b) := by
  rw [pk_lDiv ha h0 hb, lN_mul, lN_sub (Nat.div_mul_le_self a b)]
  exact congrArg lN (by have := Nat.div_add_mod' a b; omega)
end
section
/-! the component's automaton as a pure picture over a text t : Nat → Nat; running sums of braces and of parentheses -/
def pm_od (a b c : Nat) : Int := if c = a then 1 else if c = b then -1 else 0
def pm_cn (a b : Nat) (t : Nat → Nat) : Nat → Int
  | 0 => 0
  | k + 1 => pm_cn a b t k + pm_od a b (t k)
abbrev pm_op (t : Nat → Nat) (k : Nat) : Int := pm_cn 123 125 t k
abbrev pm_pd (t : Nat → Nat) (k : Nat) : Int := pm_cn 40 41 t k
abbrev pm_le (c : Nat) : Prop := 97 ≤ c ∧ c ≤ 122
abbrev pm_dg (c : Nat) : Prop := 48 ≤ c ∧ c ≤ 57
abbrev pm_pl (c : Nat) : Prop := (97 ≤ c ∧ c ≤ 122) ∨ (48 ≤ c ∧ c ≤ 57) ∨ c = 32 ∨ c = 44 ∨ c = 46 ∨ c = 33 ∨ c = 45
def pm_ks (c : Nat) : Nat := if c = 61 then 5 else if 97 ≤ c ∧ c ≤ 122 then 6 else 7
def pm_sa (s c : Nat) (o : Int) : Nat :=
  if s = 0 then (if c = 123 then 1 else if c = 41 then (if 0 < o then 4 else 7) else if c = 35 ∨ pm_pl c then 0 else 7)
  else if s = 1 then (if 48 ≤ c ∧ c < 52 then 2 else 7)
  else if s = 2 then (if c = 125 then 0 else if c = 63 ∨ c = 58 then 3 else 7)
  else if s = 3 then pm_ks c
  else if s = 4 then (if c = 125 then 0 else pm_ks c)
  else if s = 5 then (if 48 ≤ c ∧ c ≤ 57 then 6 else 7)
  else if s = 6 then (if c = 40 then 0 else 7)
  else 7
def pm_st (t : Nat → Nat) : Nat → Nat
  | 0 => 0
  | k + 1 => pm_sa (pm_st t k) (t k) (pm_cn 123 125 t k)
theorem pm_od3 (a b c : Nat) (hab : a ≠ b) : (c = a → pm_od a b c = 1) ∧ (c = b → pm_od a b c = -1) ∧ (c ≠ a → c ≠ b → pm_od a b c = 0) := by
  unfold pm_od
  refine ⟨fun h => if_pos h, fun h => ?_, fun h1 h2 => ?_⟩
  · rw [if_neg (by omega), if_pos h]
  · rw [if_neg h1, if_neg h2]
theorem pm_cn3 (a b : Nat) (t : Nat → Nat) (k : Nat) (hab : a ≠ b) : (t k = a → pm_cn a b t (k + 1) = pm_cn a b t k + 1) ∧ (t k = b → pm_cn a b t (k + 1) = pm_cn a b t k - 1) ∧ (t k ≠ a → t k ≠ b → pm_cn a b t (k + 1) = pm_cn a b t k) := by
  have e : pm_cn a b t (k + 1) = pm_cn a b t k + pm_od a b (t k) := rfl
  have h := pm_od3 a b (t k) hab
  rw [e]
  refine ⟨fun z => ?_, fun z => ?_, fun z y => ?_⟩
  · have := h.1 z; omega
  · have := h.2.1 z; omega
  · have := h.2.2 z y; omega
theorem pm_sa_inv (s c : Nat) (o : Int) (h : pm_sa s c o ≠ 7) :
    (s = 0 ∧ c = 123 ∧ pm_sa s c o = 1) ∨ (s = 0 ∧ c = 41 ∧ 0 < o ∧ pm_sa s c o = 4) ∨ (s = 0 ∧ (c = 35 ∨ pm_pl c) ∧ pm_sa s c o = 0)
    ∨ (s = 1 ∧ 48 ≤ c ∧ c < 52 ∧ pm_sa s c o = 2) ∨ (s = 2 ∧ c = 125 ∧ pm_sa s c o = 0) ∨ (s = 2 ∧ (c = 63 ∨ c = 58) ∧ pm_sa s c o = 3)
    ∨ ((s = 3 ∨ s = 4) ∧ c = 61 ∧ pm_sa s c o = 5) ∨ ((s = 3 ∨ s = 4) ∧ pm_le c ∧ pm_sa s c o = 6) ∨ (s = 4 ∧ c = 125 ∧ pm_sa s c o = 0)
    ∨ (s = 5 ∧ pm_dg c ∧ pm_sa s c o = 6) ∨ (s = 6 ∧ c = 40 ∧ pm_sa s c o = 0) := by
  generalize hv : pm_sa s c o = v at *
  unfold pm_sa pm_ks at hv
  by_cases s0 : s = 0
  · rw [if_pos s0] at hv
    by_cases c1 : c = 123
    · rw [if_pos c1] at hv; exact Or.inl (⟨s0, c1, hv.symm⟩)
    rw [if_neg c1] at hv
    by_cases c2 : c = 41
    · rw [if_pos c2] at hv
      by_cases c3 : 0 < o
      · rw [if_pos c3] at hv; exact Or.inr (Or.inl (⟨s0, c2, c3, hv.symm⟩))
      · rw [if_neg c3] at hv; exact absurd hv.symm h
    rw [if_neg c2] at hv
    by_cases c4 : c = 35 ∨ pm_pl c
    · rw [if_pos c4] at hv; exact Or.inr (Or.inr (Or.inl (⟨s0, c4, hv.symm⟩)))
    · rw [if_neg c4] at hv; exact absurd hv.symm h
  rw [if_neg s0] at hv
  by_cases s1 : s = 1
  · rw [if_pos s1] at hv
    by_cases c1 : 48 ≤ c ∧ c < 52
    · rw [if_pos c1] at hv; exact Or.inr (Or.inr (Or.inr (Or.inl (⟨s1, c1.1, c1.2, hv.symm⟩))))
    · rw [if_neg c1] at hv; exact absurd hv.symm h
  rw [if_neg s1] at hv
  by_cases s2 : s = 2
  · rw [if_pos s2] at hv
    by_cases c1 : c = 125
    · rw [if_pos c1] at hv; exact Or.inr (Or.inr (Or.inr (Or.inr (Or.inl (⟨s2, c1, hv.symm⟩)))))
    rw [if_neg c1] at hv
    by_cases c2 : c = 63 ∨ c = 58
    · rw [if_pos c2] at hv; exact Or.inr (Or.inr (Or.inr (Or.inr (Or.inr (Or.inl (⟨s2, c2, hv.symm⟩))))))
    · rw [if_neg c2] at hv; exact absurd hv.symm h
  rw [if_neg s2] at hv
  by_cases s3 : s = 3
  · rw [if_pos s3] at hv
    by_cases c1 : c = 61
    · rw [if_pos c1] at hv; exact Or.inr (Or.inr (Or.inr (Or.inr (Or.inr (Or.inr (Or.inl (⟨Or.inl s3, c1, hv.symm⟩)))))))
    rw [if_neg c1] at hv
    by_cases c2 : 97 ≤ c ∧ c ≤ 122
    · rw [if_pos c2] at hv; exact Or.inr (Or.inr (Or.inr (Or.inr (Or.inr (Or.inr (Or.inr (Or.inl (⟨Or.inl s3, c2, hv.symm⟩))))))))
    · rw [if_neg c2] at hv; exact absurd hv.symm h
  rw [if_neg s3] at hv
  by_cases s4 : s = 4
  · rw [if_pos s4] at hv
    by_cases c0 : c = 125
    · rw [if_pos c0] at hv; exact Or.inr (Or.inr (Or.inr (Or.inr (Or.inr (Or.inr (Or.inr (Or.inr (Or.inl (⟨s4, c0, hv.symm⟩)))))))))
    rw [if_neg c0] at hv
    by_cases c1 : c = 61
    · rw [if_pos c1] at hv; exact Or.inr (Or.inr (Or.inr (Or.inr (Or.inr (Or.inr (Or.inl (⟨Or.inr s4, c1, hv.symm⟩)))))))
    rw [if_neg c1] at hv
    by_cases c2 : 97 ≤ c ∧ c ≤ 122
    · rw [if_pos c2] at hv; exact Or.inr (Or.inr (Or.inr (Or.inr (Or.inr (Or.inr (Or.inr (Or.inl (⟨Or.inr s4, c2, hv.symm⟩))))))))
    · rw [if_neg c2] at hv; exact absurd hv.symm h
  rw [if_neg s4] at hv
  by_cases s5 : s = 5
  · rw [if_pos s5] at hv
    by_cases c1 : 48 ≤ c ∧ c ≤ 57
    · rw [if_pos c1] at hv; exact Or.inr (Or.inr (Or.inr (Or.inr (Or.inr (Or.inr (Or.inr (Or.inr (Or.inr (Or.inl (⟨s5, c1, hv.symm⟩))))))))))
    · rw [if_neg c1] at hv; exact absurd hv.symm h
  rw [if_neg s5] at hv
  by_cases s6 : s = 6
  · rw [if_pos s6] at hv
    by_cases c1 : c = 40
    · rw [if_pos c1] at hv; exact Or.inr (Or.inr (Or.inr (Or.inr (Or.inr (Or.inr (Or.inr (Or.inr (Or.inr (Or.inr (⟨s6, c1, hv.symm⟩))))))))))
    · rw [if_neg c1] at hv; exact absurd hv.symm h
  rw [if_neg s6] at hv
  exact absurd hv.symm h
theorem pm_sa7 (c : Nat) (o : Int) : pm_sa 7 c o = 7 := rfl
theorem pm_st_s (t : Nat → Nat) (k : Nat) : pm_st t (k + 1) = pm_sa (pm_st t k) (t k) (pm_cn 123 125 t k) := rfl
theorem pm_stick (t : Nat → Nat) (k : Nat) (h : pm_st t k = 7) : ∀ d, pm_st t (k + d) = 7 := by
  intro d
  induction d with
  | zero => exact h
  | succ d ih => show pm_st t (k + d + 1) = 7; rw [pm_st_s, ih]; rfl
theorem pm_ne7 {t : Nat → Nat} {k m : Nat} (h : pm_st t m ≠ 7) (hk : k ≤ m) : pm_st t k ≠ 7 := by
  intro z
  have := pm_stick t k z (m - k)
  rw [show k + (m - k) = m by omega] at this
  exact h this
/-- one step that does not break: eleven ways -/
theorem pm_step (t : Nat → Nat) (k : Nat) (h : pm_st t (k + 1) ≠ 7) :
    (pm_st t k = 0 ∧ t k = 123 ∧ pm_st t (k + 1) = 1 ∧ pm_op t (k + 1) = pm_op t k + 1 ∧ pm_pd t (k + 1) = pm_pd t k)
    ∨ (pm_st t k = 0 ∧ t k = 41 ∧ 0 < pm_op t k ∧ pm_st t (k + 1) = 4 ∧ pm_op t (k + 1) = pm_op t k ∧ pm_pd t (k + 1) = pm_pd t k - 1)
    ∨ (pm_st t k = 0 ∧ (t k = 35 ∨ pm_pl (t k)) ∧ pm_st t (k + 1) = 0 ∧ pm_op t (k + 1) = pm_op t k ∧ pm_pd t (k + 1) = pm_pd t k)
    ∨ (pm_st t k = 1 ∧ 48 ≤ t k ∧ t k < 52 ∧ pm_st t (k + 1) = 2 ∧ pm_op t (k + 1) = pm_op t k ∧ pm_pd t (k + 1) = pm_pd t k)
    ∨ (pm_st t k = 2 ∧ t k = 125 ∧ pm_st t (k + 1) = 0 ∧ pm_op t (k + 1) = pm_op t k - 1 ∧ pm_pd t (k + 1) = pm_pd t k)
    ∨ (pm_st t k = 2 ∧ (t k = 63 ∨ t k = 58) ∧ pm_st t (k + 1) = 3 ∧ pm_op t (k + 1) = pm_op t k ∧ pm_pd t (k + 1) = pm_pd t k)
    ∨ ((pm_st t k = 3 ∨ pm_st t k = 4) ∧ t k = 61 ∧ pm_st t (k + 1) = 5 ∧ pm_op t (k + 1) = pm_op t k ∧ pm_pd t (k + 1) = pm_pd t k)
    ∨ ((pm_st t k = 3 ∨ pm_st t k = 4) ∧ pm_le (t k) ∧ pm_st t (k + 1) = 6 ∧ pm_op t (k + 1) = pm_op t k ∧ pm_pd t (k + 1) = pm_pd t k)
    ∨ (pm_st t k = 4 ∧ t k = 125 ∧ pm_st t (k + 1) = 0 ∧ pm_op t (k + 1) = pm_op t k - 1 ∧ pm_pd t (k + 1) = pm_pd t k)
    ∨ (pm_st t k = 5 ∧ pm_dg (t k) ∧ pm_st t (k + 1) = 6 ∧ pm_op t (k + 1) = pm_op t k ∧ pm_pd t (k + 1) = pm_pd t k)
    ∨ (pm_st t k = 6 ∧ t k = 40 ∧ pm_st t (k + 1) = 0 ∧ pm_op t (k + 1) = pm_op t k ∧ pm_pd t (k + 1) = pm_pd t k + 1) := by
  have i := pm_sa_inv (pm_st t k) (t k) (pm_cn 123 125 t k) (by rw [← pm_st_s]; exact h)
  rw [← pm_st_s] at i
  obtain ⟨o1, o2, o3⟩ := pm_cn3 123 125 t k (by decide)
  obtain ⟨q1, q2, q3⟩ := pm_cn3 40 41 t k (by decide)
  unfold pm_pl pm_le pm_dg at *
  unfold pm_op pm_pd
  generalize pm_cn 123 125 t (k + 1) = o' at *
  generalize pm_cn 40 41 t (k + 1) = q' at *
  generalize pm_cn 123 125 t k = o at *
  generalize pm_cn 40 41 t k = q at *
  generalize pm_st t (k + 1) = s' at *
  generalize pm_st t k = s at *
  generalize t k = c at *
  rcases i with i | i | i | i | i | i | i | i | i | i | i
  · have := o1 i.2.1; have := q3 (by omega) (by omega); exact Or.inl (by omega)
  · have := o3 (by omega) (by omega); have := q2 i.2.1; exact Or.inr (Or.inl (by omega))
  · have := o3 (by omega) (by omega); have := q3 (by omega) (by omega); exact Or.inr (Or.inr (Or.inl (by omega)))
  · have := o3 (by omega) (by omega); have := q3 (by omega) (by omega); exact Or.inr (Or.inr (Or.inr (Or.inl (by omega))))
  · have := o2 (by omega); have := q3 (by omega) (by omega); exact Or.inr (Or.inr (Or.inr (Or.inr (Or.inl (by omega)))))
  · have := o3 (by omega) (by omega); have := q3 (by omega) (by omega); exact Or.inr (Or.inr (Or.inr (Or.inr (Or.inr (Or.inl (by omega))))))
  · have := o3 (by omega) (by omega); have := q3 (by omega) (by omega); exact Or.inr (Or.inr (Or.inr (Or.inr (Or.inr (Or.inr (Or.inl (by omega)))))))
  · have := o3 (by omega) (by omega); have := q3 (by omega) (by omega); exact Or.inr (Or.inr (Or.inr (Or.inr (Or.inr (Or.inr (Or.inr (Or.inl (by omega))))))))
  · have := o2 (by omega); have := q3 (by omega) (by omega); exact Or.inr (Or.inr (Or.inr (Or.inr (Or.inr (Or.inr (Or.inr (Or.inr (Or.inl (by omega)))))))))
  · have := o3 (by omega) (by omega); have := q3 (by omega) (by omega); exact Or.inr (Or.inr (Or.inr (Or.inr (Or.inr (Or.inr (Or.inr (Or.inr (Or.inr (Or.inl (by omega))))))))))
  · have := o3 (by omega) (by omega); have := q1 (by omega); exact Or.inr (Or.inr (Or.inr (Or.inr (Or.inr (Or.inr (Or.inr (Or.inr (Or.inr (Or.inr (by omega))))))))))
/-- a run that hasn't broken: braces and parentheses go together -/
theorem pm_inv (t : Nat → Nat) : ∀ k, pm_st t k ≠ 7 → pm_st t k ≤ 6 ∧ 0 ≤ pm_op t k ∧ (pm_st t k ≠ 0 → 1 ≤ pm_op t k) ∧ (pm_st t k = 0 → pm_pd t k = pm_op t k) ∧ (pm_st t k ≠ 0 → pm_pd t k = pm_op t k - 1) := by
  intro k
  induction k with
  | zero => intro _; exact ⟨Nat.zero_le _, Int.le_refl _, fun h => absurd rfl h, fun _ => rfl, fun h => absurd rfl h⟩
  | succ k ih =>
    intro h
    have hk := ih (pm_ne7 h (Nat.le_succ k))
    have s := pm_step t k h
    rcases s with i | i | i | i | i | i | i | i | i | i | i <;> refine ⟨?_, ?_, ?_, ?_, ?_⟩ <;> omega
/-- braces move by one at most -/
theorem pm_cn1 (a b : Nat) (t : Nat → Nat) (k : Nat) (hab : a ≠ b) : pm_cn a b t k - 1 ≤ pm_cn a b t (k + 1) ∧ pm_cn a b t (k + 1) ≤ pm_cn a b t k + 1 := by
  obtain ⟨o1, o2, o3⟩ := pm_cn3 a b t k hab
  by_cases z : t k = a
  · have := o1 z; omega
  · by_cases y : t k = b
    · have := o2 y; omega
    · have := o3 z y; omega
theorem pm_cnB (a b : Nat) (t : Nat → Nat) (hab : a ≠ b) : ∀ k : Nat, -(k : Int) ≤ pm_cn a b t k ∧ pm_cn a b t k ≤ k := by
  intro k
  induction k with
  | zero => exact ⟨Int.le_refl _, Int.le_refl _⟩
  | succ k ih => have := pm_cn1 a b t k hab; omega
end
section
/-! what makes a text sound: acceptance, and that replacing a piece by one plain character keeps it -/
def pm_Acc (t : Nat → Nat) (n : Nat) : Prop := pm_st t n = 0 ∧ pm_op t n = 0
def pm_Snd (t : Nat → Nat) (n : Nat) : Prop := (∀ k, k ≤ n → pm_op t k ≤ 4) ∧ pm_Acc t n
theorem pm_same (w v : Nat → Nat) : ∀ k, (∀ j, j < k → v j = w j) → pm_st v k = pm_st w k ∧ pm_op v k = pm_op w k := by
  intro k
  induction k with
  | zero => intro _; exact ⟨rfl, rfl⟩
  | succ k ih =>
    intro h
    have i := ih (fun j hj => h j (by omega))
    have e : pm_cn 123 125 v k = pm_cn 123 125 w k := i.2
    refine ⟨?_, ?_⟩
    · rw [pm_st_s, pm_st_s, i.1, e, h k (Nat.lt_succ_self k)]
    · show pm_cn 123 125 v k + pm_od 123 125 (v k) = pm_cn 123 125 w k + pm_od 123 125 (w k)
      rw [e, h k (Nat.lt_succ_self k)]
theorem pm_Acc_same {w v : Nat → Nat} {n : Nat} (h : ∀ j, j < n → v j = w j) : pm_Acc v n ↔ pm_Acc w n := by
  have e := pm_same w v n h
  unfold pm_Acc
  rw [e.1, e.2]
theorem pm_shift (w v : Nat → Nat) (a b : Nat) (hs : pm_st v a = pm_st w b) (ho : pm_op v a = pm_op w b) : ∀ d, (∀ j, j < d → v (a + j) = w (b + j)) → pm_st v (a + d) = pm_st w (b + d) ∧ pm_op v (a + d) = pm_op w (b + d) := by
  intro d
  induction d with
  | zero => intro _; exact ⟨hs, ho⟩
  | succ d ih =>
    intro h
    have i := ih (fun j hj => h j (by omega))
    have e : pm_cn 123 125 v (a + d) = pm_cn 123 125 w (b + d) := i.2
    refine ⟨?_, ?_⟩
    · show pm_st v (a + d + 1) = pm_st w (b + d + 1)
      rw [pm_st_s, pm_st_s, i.1, e, h d (Nat.lt_succ_self d)]
    · show pm_cn 123 125 v (a + d) + pm_od 123 125 (v (a + d)) = pm_cn 123 125 w (b + d) + pm_od 123 125 (w (b + d))
      rw [e, h d (Nat.lt_succ_self d)]
theorem pm_brk (s : Nat) (o : Int) (h : s ≠ 0) : pm_sa s 33 o = 7 ∧ pm_sa s 123 o = 7 := by
  unfold pm_sa pm_ks
  unfold pm_pl
  constructor
  · grind
  · grind
/-- what a found piece is, as far as the automaton goes -/
def pm_PE (w : Nat → Nat) (m i e : Nat) : Prop := i + 2 ≤ e ∧ e < m ∧ w i = 123 ∧ pm_op w (e + 1) = pm_op w i ∧ (pm_st w i = 0 → 0 ≤ pm_op w i → pm_st w (e + 1) = 0)
theorem pm_repl {w v : Nat → Nat} {m i e : Nat} (P : pm_PE w m i e) (h1 : ∀ j, j < i → v j = w j) (h2 : v i = 33) (h3 : ∀ j, i < j → j < m - (e - i) → v j = w (j + (e - i))) : pm_Acc v (m - (e - i)) ↔ pm_Acc w m := by
  obtain ⟨p1, p2, p3, p4, p5⟩ := P
  obtain ⟨s1, s2⟩ := pm_same w v i h1
  by_cases z : pm_st w i = 0
  · have nn := (pm_inv w i (by omega)).2.1
    have s4 := p5 z nn
    have t1 : pm_st v (i + 1) = pm_st w (e + 1) := by
      rw [pm_st_s, s1, z, h2, s4]; rfl
    have t2 : pm_op v (i + 1) = pm_op w (e + 1) := by
      have := (pm_cn3 123 125 v i (by decide)).2.2 (by omega) (by omega)
      unfold pm_op at *
      omega
    have q := pm_shift w v (i + 1) (e + 1) t1 t2 (m - (e + 1)) (fun j hj => by
      have := h3 (i + 1 + j) (by omega) (by omega)
      rw [this, show i + 1 + j + (e - i) = e + 1 + j by omega])
    rw [show i + 1 + (m - (e + 1)) = m - (e - i) by omega, show e + 1 + (m - (e + 1)) = m by omega] at q
    unfold pm_Acc
    rw [q.1, q.2]
  · have a1 : pm_st v (i + 1) = 7 := by rw [pm_st_s, s1, h2]; exact (pm_brk _ _ z).1
    have a2 : pm_st w (i + 1) = 7 := by rw [pm_st_s, p3]; exact (pm_brk _ _ z).2
    have b1 := pm_stick v (i + 1) a1 (m - (e - i) - (i + 1))
    have b2 := pm_stick w (i + 1) a2 (m - (i + 1))
    rw [show i + 1 + (m - (e - i) - (i + 1)) = m - (e - i) by omega] at b1
    rw [show i + 1 + (m - (i + 1)) = m by omega] at b2
    unfold pm_Acc
    rw [b1, b2]
    constructor <;> intro h <;> exact absurd h.1 (by decide)
/-! a branch, a piece -/
def pm_BrE (w : Nat → Nat) (m a e : Nat) : Prop := ∃ o, ((pm_le (w a) ∧ o = a + 1) ∨ (w a = 61 ∧ pm_dg (w (a + 1)) ∧ o = a + 2)) ∧ w o = 40 ∧ o < e ∧ e < m ∧ w e = 41 ∧ ∀ k, o < k → k < e → (w k = 35 ∨ pm_pl (w k))
def pm_PI (w : Nat → Nat) (i a : Nat) : Prop := pm_op w a = pm_op w i + 1 ∧ (pm_st w i = 0 → 0 ≤ pm_op w i → (pm_st w a = 3 ∨ pm_st w a = 4))
theorem pm_run (w : Nat → Nat) (o : Nat) : ∀ d, (∀ k, o < k → k < o + 1 + d → (w k = 35 ∨ pm_pl (w k))) → pm_op w (o + 1 + d) = pm_op w (o + 1) ∧ (pm_st w (o + 1) = 0 → pm_st w (o + 1 + d) = 0) := by
  intro d
  induction d with
  | zero => intro _; exact ⟨rfl, fun h => h⟩
  | succ d ih =>
    intro h
    have i := ih (fun k h1 h2 => h k h1 (by omega))
    have c := h (o + 1 + d) (by omega) (by omega)
    have e := (pm_cn3 123 125 w (o + 1 + d) (by decide)).2.2 (by unfold pm_pl at c; omega) (by unfold pm_pl at c; omega)
    refine ⟨?_, fun z => ?_⟩
    · show pm_cn 123 125 w (o + 1 + d + 1) = _
      rw [e]; exact i.1
    · show pm_st w (o + 1 + d + 1) = 0
      rw [pm_st_s, i.2 z]
      unfold pm_sa
      rw [if_pos rfl, if_neg (by unfold pm_pl at c; omega), if_neg (by unfold pm_pl at c; omega), if_pos c]
theorem pm_key1 (w : Nat → Nat) (a o : Nat) (h : ((pm_le (w a) ∧ o = a + 1) ∨ (w a = 61 ∧ pm_dg (w (a + 1)) ∧ o = a + 2))) (h4 : w o = 40) : pm_op w (o + 1) = pm_op w a ∧ ((pm_st w a = 3 ∨ pm_st w a = 4) → pm_st w (o + 1) = 0) := by
  unfold pm_le pm_dg at h
  rcases h with ⟨h1, rfl⟩ | ⟨h1, h2, rfl⟩
  · have e1 := (pm_cn3 123 125 w a (by decide)).2.2 (by omega) (by omega)
    have e2 := (pm_cn3 123 125 w (a + 1) (by decide)).2.2 (by omega) (by omega)
    refine ⟨by unfold pm_op; omega, fun s => ?_⟩
    rw [pm_st_s, pm_st_s, h4]
    rcases s with s | s <;> rw [s] <;> unfold pm_sa pm_ks <;> grind
  · have e1 := (pm_cn3 123 125 w a (by decide)).2.2 (by omega) (by omega)
    have e2 := (pm_cn3 123 125 w (a + 1) (by decide)).2.2 (by omega) (by omega)
    have e3 := (pm_cn3 123 125 w (a + 2) (by decide)).2.2 (by omega) (by omega)
    refine ⟨by unfold pm_op; show pm_cn 123 125 w (a + 2 + 1) = _; rw [e3]; show pm_cn 123 125 w (a + 1 + 1) = _; omega, fun s => ?_⟩
    have s1 : pm_st w (a + 1) = 5 := by
      rw [pm_st_s, h1]
      rcases s with s | s <;> rw [s] <;> rfl
    have s2 : pm_st w (a + 2) = 6 := by
      show pm_st w (a + 1 + 1) = 6
      rw [pm_st_s, s1]
      unfold pm_sa
      grind
    show pm_st w (a + 2 + 1) = 0
    rw [pm_st_s, s2, h4]
    rfl
theorem pm_brS {w : Nat → Nat} {m i a e : Nat} (I : pm_PI w i a) (B : pm_BrE w m a e) : pm_op w (e + 1) = pm_op w i + 1 ∧ (pm_st w i = 0 → 0 ≤ pm_op w i → pm_st w (e + 1) = 4) ∧ a + 2 ≤ e ∧ e < m := by
  obtain ⟨o, k1, k2, k3, k4, k5, k6⟩ := B
  obtain ⟨j1, j2⟩ := pm_key1 w a o k1 k2
  have r := pm_run w o (e - (o + 1)) (fun k h1 h2 => k6 k h1 (by omega))
  rw [show o + 1 + (e - (o + 1)) = e by omega] at r
  have x := (pm_cn3 123 125 w e (by decide)).2.2 (by omega) (by omega)
  have i1 := I.1
  refine ⟨by unfold pm_op at *; omega, fun z y => ?_, by omega, k4⟩
  have q := r.2 (j2 (I.2 z y))
  rw [pm_st_s, q, k5]
  unfold pm_sa
  rw [if_pos rfl, if_neg (by decide), if_pos rfl, if_pos (by unfold pm_op at *; omega)]
theorem pm_pieceB {w : Nat → Nat} {m i a e : Nat} (h0 : w i = 123) (hia : i < a) (I : pm_PI w i a) (B : pm_BrE w m a e) (hm : e + 1 < m) (hc : w (e + 1) = 125) : pm_PE w m i (e + 1) := by
  obtain ⟨j1, j2, j3, j4⟩ := pm_brS I B
  refine ⟨by omega, hm, h0, ?_, fun z y => ?_⟩
  · have := (pm_cn3 123 125 w (e + 1) (by decide)).2.1 hc
    unfold pm_op at *
    omega
  · rw [pm_st_s, j2 z y, hc]; rfl
theorem pm_PI0 {w : Nat → Nat} {i : Nat} (h0 : w i = 123) (h1 : 48 ≤ w (i + 1) ∧ w (i + 1) ≤ 51) (h2 : w (i + 2) = 63 ∨ w (i + 2) = 58) : pm_PI w i (i + 3) := by
  have e1 := (pm_cn3 123 125 w i (by decide)).1 h0
  have e2 := (pm_cn3 123 125 w (i + 1) (by decide)).2.2 (by omega) (by omega)
  have e3 := (pm_cn3 123 125 w (i + 2) (by decide)).2.2 (by omega) (by omega)
  refine ⟨?_, fun z _ => Or.inl ?_⟩
  · show pm_cn 123 125 w (i + 2 + 1) = pm_cn 123 125 w i + 1
    rw [e3]; show pm_cn 123 125 w (i + 1 + 1) = _; omega
  · have s1 : pm_st w (i + 1) = 1 := by rw [pm_st_s, z, h0]; rfl
    have s2 : pm_st w (i + 2) = 2 := by
      show pm_st w (i + 1 + 1) = 2
      rw [pm_st_s, s1]; unfold pm_sa; grind
    show pm_st w (i + 2 + 1) = 3
    rw [pm_st_s, s2]
    rcases h2 with h2 | h2 <;> rw [h2] <;> rfl
theorem pm_pieceV {w : Nat → Nat} {m i : Nat} (h0 : w i = 123) (h1 : 48 ≤ w (i + 1) ∧ w (i + 1) ≤ 51) (hm : i + 2 < m) (h2 : w (i + 2) = 125) : pm_PE w m i (i + 2) := by
  have e1 := (pm_cn3 123 125 w i (by decide)).1 h0
  have e2 := (pm_cn3 123 125 w (i + 1) (by decide)).2.2 (by omega) (by omega)
  have e3 := (pm_cn3 123 125 w (i + 2) (by decide)).2.1 h2
  refine ⟨by omega, hm, h0, ?_, fun z _ => ?_⟩
  · show pm_cn 123 125 w (i + 2 + 1) = pm_cn 123 125 w i
    rw [e3]; show pm_cn 123 125 w (i + 1 + 1) - 1 = _; omega
  · have s1 : pm_st w (i + 1) = 1 := by rw [pm_st_s, z, h0]; rfl
    have s2 : pm_st w (i + 2) = 2 := by
      show pm_st w (i + 1 + 1) = 2
      rw [pm_st_s, s1]; unfold pm_sa; grind
    show pm_st w (i + 2 + 1) = 0
    rw [pm_st_s, s2, h2]; rfl
/-! where a piece must be found: the last opening brace of an accepted text -/
def pm_BG (w : Nat → Nat) (m a : Nat) : Prop := pm_Acc w m ∧ a < m ∧ (pm_st w a = 3 ∨ (pm_st w a = 4 ∧ w a ≠ 125)) ∧ ∀ k, a ≤ k → k < m → w k ≠ 123
def pm_GD (w : Nat → Nat) (m i : Nat) : Prop := pm_Acc w m ∧ i < m ∧ w i = 123 ∧ ∀ k, i < k → k < m → w k ≠ 123
theorem pm_accS {w : Nat → Nat} {m k : Nat} (A : pm_Acc w m) (h : k < m) : pm_st w (k + 1) ≠ 7 := pm_ne7 (m := m) (by rw [A.1]; decide) (by omega)
theorem pm_accI {w : Nat → Nat} {m k : Nat} (A : pm_Acc w m) (h : k ≤ m) : pm_st w k ≠ 7 := pm_ne7 (m := m) (by rw [A.1]; decide) h
theorem pm_accL {w : Nat → Nat} {m k : Nat} (A : pm_Acc w m) (h : k ≤ m) (z : pm_st w k ≠ 0) : k < m := by
  rcases Nat.lt_or_ge k m with q | q
  · exact q
  · have : k = m := by omega
    subst this
    exact absurd A.1 z
theorem pm_BGkey {w : Nat → Nat} {m a : Nat} (G : pm_BG w m a) : ∃ o, ((pm_le (w a) ∧ o = a + 1) ∨ (w a = 61 ∧ pm_dg (w (a + 1)) ∧ a + 1 < m ∧ o = a + 2)) ∧ o < m ∧ w o = 40 ∧ pm_st w (o + 1) = 0 ∧ 1 ≤ pm_op w (o + 1) := by
  obtain ⟨A, h1, h2, h3⟩ := G
  have v := pm_inv w a (pm_accI A (by omega))
  have s := pm_step w a (pm_accS A h1)
  have c0 := h3 a (Nat.le_refl a) h1
  have key : (w a = 61 ∧ pm_st w (a + 1) = 5 ∧ pm_op w (a + 1) = pm_op w a) ∨ (pm_le (w a) ∧ pm_st w (a + 1) = 6 ∧ pm_op w (a + 1) = pm_op w a) := by
    unfold pm_le pm_pl pm_dg at *
    omega
  rcases key with ⟨c, s5, o5⟩ | ⟨c, s6, o6⟩
  · have l1 := pm_accL A (k := a + 1) (by omega) (by omega)
    have q := pm_step w (a + 1) (pm_accS A l1)
    have q' : pm_dg (w (a + 1)) ∧ pm_st w (a + 2) = 6 ∧ pm_op w (a + 2) = pm_op w (a + 1) := by
      rw [show a + 1 + 1 = a + 2 by omega] at q
      unfold pm_le pm_pl pm_dg at *
      omega
    have l2 := pm_accL A (k := a + 2) (by omega) (by omega)
    have r := pm_step w (a + 2) (pm_accS A l2)
    refine ⟨a + 2, Or.inr ⟨c, q'.1, l1, rfl⟩, l2, ?_⟩
    have := q'.2
    unfold pm_le pm_pl pm_dg at *
    omega
  · have l2 := pm_accL A (k := a + 1) (by omega) (by omega)
    have r := pm_step w (a + 1) (pm_accS A l2)
    refine ⟨a + 1, Or.inl ⟨c, rfl⟩, l2, ?_⟩
    unfold pm_le pm_pl pm_dg at *
    omega
theorem pm_BGrun {w : Nat → Nat} {m o k : Nat} (A : pm_Acc w m) (hs : pm_st w (o + 1) = 0) (ho : 1 ≤ pm_op w (o + 1)) (hk : o + 1 ≤ k) (hm : k ≤ m) (hp : ∀ j, o < j → j < k → (w j = 35 ∨ pm_pl (w j))) : k < m ∧ (w k = 123 ∨ w k = 41 ∨ w k = 35 ∨ pm_pl (w k)) := by
  have r := pm_run w o (k - (o + 1)) (fun j h1 h2 => hp j h1 (by omega))
  rw [show o + 1 + (k - (o + 1)) = k by omega] at r
  have r2 := r.2 hs
  have hl : k < m := by
    rcases Nat.lt_or_ge k m with q | q
    · exact q
    · have : k = m := by omega
      subst this
      have := A.2
      omega
  have s := pm_step w k (pm_accS A hl)
  refine ⟨hl, ?_⟩
  unfold pm_le pm_pl pm_dg at *
  omega
theorem pm_GD0 {w : Nat → Nat} {m i : Nat} (G : pm_GD w m i) : i + 2 < m ∧ 48 ≤ w (i + 1) ∧ w (i + 1) ≤ 51 ∧ (w (i + 2) = 125 ∨ (w (i + 2) = 63 ∨ w (i + 2) = 58) ∧ pm_BG w m (i + 3)) := by
  obtain ⟨A, h1, h2, h3⟩ := G
  have s := pm_step w i (pm_accS A h1)
  have s1 : pm_st w (i + 1) = 1 := by
    unfold pm_le pm_pl pm_dg at *
    omega
  have l1 := pm_accL A (k := i + 1) (by omega) (by omega)
  have s' := pm_step w (i + 1) (pm_accS A l1)
  rw [show i + 1 + 1 = i + 2 by omega] at s'
  have s2 : pm_st w (i + 2) = 2 ∧ 48 ≤ w (i + 1) ∧ w (i + 1) < 52 := by
    unfold pm_le pm_pl pm_dg at *
    omega
  have l2 := pm_accL A (k := i + 2) (by omega) (by omega)
  have s'' := pm_step w (i + 2) (pm_accS A l2)
  rw [show i + 2 + 1 = i + 3 by omega] at s''
  have s3 : w (i + 2) = 125 ∨ ((w (i + 2) = 63 ∨ w (i + 2) = 58) ∧ pm_st w (i + 3) = 3) := by
    unfold pm_le pm_pl pm_dg at *
    omega
  refine ⟨l2, s2.2.1, by omega, ?_⟩
  rcases s3 with s3 | s3
  · exact Or.inl s3
  · refine Or.inr ⟨s3.1, A, pm_accL A (by omega) (by omega), Or.inl s3.2, fun k k1 k2 => h3 k (by omega) k2⟩
theorem pm_GDs {w : Nat → Nat} {m a e : Nat} (G : pm_BG w m a) (B : pm_BrE w m a e) : pm_st w (e + 1) = 4 ∧ e + 1 < m ∧ (w (e + 1) ≠ 125 → pm_BG w m (e + 1)) := by
  obtain ⟨o, k1, k2, k3, k4, k5, k6⟩ := B
  obtain ⟨A, h1, h2, h3⟩ := G
  obtain ⟨j1, j2⟩ := pm_key1 w a o k1 k2
  have r := pm_run w o (e - (o + 1)) (fun k h1 h2 => k6 k h1 (by omega))
  rw [show o + 1 + (e - (o + 1)) = e by omega] at r
  have v := pm_inv w a (pm_accI A (by omega))
  have s0 := r.2 (j2 (by omega))
  have s := pm_step w e (pm_accS A k4)
  have s4 : pm_st w (e + 1) = 4 := by
    unfold pm_le pm_pl pm_dg at *
    omega
  have l := pm_accL A (k := e + 1) (by omega) (by omega)
  refine ⟨s4, l, fun z => ⟨A, l, Or.inr ⟨s4, z⟩, fun k x y => h3 k (by omega) y⟩⟩
theorem pm_last (w : Nat → Nat) : ∀ m, (∀ k, k < m → w k ≠ 123) ∨ ∃ i, i < m ∧ w i = 123 ∧ ∀ k, i < k → k < m → w k ≠ 123 := by
  intro m
  induction m with
  | zero => exact Or.inl (fun k h => absurd h (Nat.not_lt_zero k))
  | succ m ih =>
    by_cases z : w m = 123
    · exact Or.inr ⟨m, Nat.lt_succ_self m, z, fun k h1 h2 => by omega⟩
    · rcases ih with h | ⟨i, h1, h2, h3⟩
      · refine Or.inl (fun k hk => ?_)
        rcases Nat.lt_or_ge k m with q | q
        · exact h k q
        · rw [show k = m by omega]; exact z
      · refine Or.inr ⟨i, by omega, h2, fun k k1 k2 => ?_⟩
        rcases Nat.lt_or_ge k m with q | q
        · exact h3 k k1 q
        · rw [show k = m by omega]; exact z
theorem pm_plainA {w : Nat → Nat} {m : Nat} (h : ∀ k, k < m → (w k = 35 ∨ pm_pl (w k))) : pm_Acc w m := by
  have q : ∀ k, k ≤ m → pm_st w k = 0 ∧ pm_op w k = 0 := by
    intro k
    induction k with
    | zero => intro _; exact ⟨rfl, rfl⟩
    | succ k ih =>
      intro hk
      have i := ih (by omega)
      have c := h k (by omega)
      have e := (pm_cn3 123 125 w k (by decide)).2.2 (by unfold pm_pl at c; omega) (by unfold pm_pl at c; omega)
      refine ⟨?_, ?_⟩
      · rw [pm_st_s, i.1]
        unfold pm_sa
        rw [if_pos rfl, if_neg (by unfold pm_pl at c; omega), if_neg (by unfold pm_pl at c; omega), if_pos c]
      · show pm_cn 123 125 w (k + 1) = 0
        rw [e]; exact i.2
  exact q m (Nat.le_refl m)
theorem pm_plain {w : Nat → Nat} {m : Nat} (A : pm_Acc w m) (h : ∀ i, i < m → ¬ pm_GD w m i) : ∀ k, k < m → (w k = 35 ∨ pm_pl (w k)) := by
  rcases pm_last w m with q | ⟨i, h1, h2, h3⟩
  · have g : ∀ k, k ≤ m → (pm_st w k = 0 ∧ pm_op w k = 0) ∧ ∀ j, j < k → (w j = 35 ∨ pm_pl (w j)) := by
      intro k
      induction k with
      | zero => intro _; exact ⟨⟨rfl, rfl⟩, fun j hj => absurd hj (Nat.not_lt_zero j)⟩
      | succ k ih =>
        intro hk
        have i := ih (by omega)
        have s := pm_step w k (pm_accS A (by omega))
        have c := q k (by omega)
        have i1 := i.1
        have u : (w k = 35 ∨ pm_pl (w k)) ∧ pm_st w (k + 1) = 0 ∧ pm_op w (k + 1) = 0 := by
          unfold pm_le pm_pl pm_dg at *
          omega
        refine ⟨u.2, fun j hj => ?_⟩
        rcases Nat.lt_or_ge j k with x | x
        · exact i.2 j x
        · rw [show j = k by omega]; exact u.1
    exact (g m (Nat.le_refl m)).2
  · exact absurd ⟨A, h1, h2, h3⟩ (h i h1)
end
section
/-! matching closers, the choice around a place, key places: running sums alone -/
def pm_mc (a b : Nat) (t : Nat → Nat) (s : Nat) : Nat → Nat → Nat
  | 0, k => k
  | d + 1, k => if pm_cn a b t (k + 1) = pm_cn a b t s then k else pm_mc a b t s d (k + 1)
def pm_mt (a b : Nat) (t : Nat → Nat) (n s : Nat) : Nat := pm_mc a b t s (n - s) s
theorem pm_mc_le (a b : Nat) (t : Nat → Nat) (s : Nat) : ∀ d k, k ≤ pm_mc a b t s d k ∧ pm_mc a b t s d k ≤ k + d := by
  intro d
  induction d with
  | zero => intro k; exact ⟨Nat.le_refl _, Nat.le_refl _⟩
  | succ d ih =>
    intro k
    unfold pm_mc
    have := ih (k + 1)
    split <;> omega
theorem pm_mt_le (a b : Nat) (t : Nat → Nat) {n s : Nat} (h : s ≤ n) : s ≤ pm_mt a b t n s ∧ pm_mt a b t n s ≤ n := by
  have := pm_mc_le a b t s (n - s) s
  unfold pm_mt
  omega
theorem pm_mc_ok (a b : Nat) (t : Nat → Nat) (hab : a ≠ b) (s n : Nat) (hn : pm_cn a b t n ≤ pm_cn a b t s) : ∀ d k, k + d = n → s < k → (∀ j, s < j → j ≤ k → pm_cn a b t s + 1 ≤ pm_cn a b t j) → ∃ f, pm_mc a b t s d k = f ∧ s < f ∧ f < n ∧ pm_cn a b t (f + 1) = pm_cn a b t s ∧ t f = b ∧ ∀ j, s < j → j ≤ f → pm_cn a b t s + 1 ≤ pm_cn a b t j := by
  intro d
  induction d with
  | zero =>
    intro k hk hs hj
    have := hj k hs (Nat.le_refl k)
    rw [show k = n by omega] at this
    omega
  | succ d ih =>
    intro k hk hs hj
    have c3 := pm_cn3 a b t k hab
    have c1 := hj k hs (Nat.le_refl k)
    by_cases z : pm_cn a b t (k + 1) = pm_cn a b t s
    · refine ⟨k, if_pos z, hs, by omega, z, ?_, hj⟩
      by_cases y : t k = b
      · exact y
      · by_cases x : t k = a
        · have := c3.1 x; omega
        · have := c3.2.2 x y; omega
    · have c2 := pm_cn1 a b t k hab
      obtain ⟨f, f1, f2⟩ := ih (k + 1) (by omega) (by omega) (fun j j1 j2 => by
        rcases Nat.lt_or_ge j (k + 1) with q | q
        · exact hj j j1 (by omega)
        · rw [show j = k + 1 by omega]; omega)
      refine ⟨f, ?_, f2⟩
      unfold pm_mc
      rw [if_neg z]
      exact f1
theorem pm_mt_ok {a b : Nat} {t : Nat → Nat} (hab : a ≠ b) {s n : Nat} (hs : s < n) (h : t s = a) (hn : pm_cn a b t n ≤ pm_cn a b t s) : s < pm_mt a b t n s ∧ pm_mt a b t n s < n ∧ pm_cn a b t (pm_mt a b t n s + 1) = pm_cn a b t s ∧ t (pm_mt a b t n s) = b ∧ ∀ j, s < j → j ≤ pm_mt a b t n s → pm_cn a b t s + 1 ≤ pm_cn a b t j := by
  have c := (pm_cn3 a b t s hab).1 h
  obtain ⟨f, f1, f2⟩ := pm_mc_ok a b t hab s n hn (n - (s + 1)) (s + 1) (by omega) (by omega) (fun j j1 j2 => by rw [show j = s + 1 by omega]; omega)
  have e : pm_mt a b t n s = f := by
    unfold pm_mt
    rw [show n - s = (n - (s + 1)) + 1 by omega]
    unfold pm_mc
    rw [if_neg (by omega)]
    exact f1
  rw [e]
  exact f2
def pm_ac (t : Nat → Nat) (i : Nat) : Nat → Option Nat
  | 0 => none
  | k + 1 => if pm_op t k = pm_op t i - 1 then some k else pm_ac t i k
def pm_ar (t : Nat → Nat) (i : Nat) : Option Nat := pm_ac t i i
def pm_Ar (t : Nat → Nat) (i c : Nat) : Prop := c < i ∧ pm_op t c = pm_op t i - 1 ∧ ∀ k, c < k → k < i → pm_op t i ≤ pm_op t k
theorem pm_ar_some {t : Nat → Nat} {i c : Nat} (A : pm_Ar t i c) : pm_ar t i = some c := by
  obtain ⟨h1, h2, h3⟩ := A
  have q : ∀ d, c + 1 + d ≤ i → pm_ac t i (c + 1 + d) = some c := by
    intro d
    induction d with
    | zero => intro _; exact if_pos h2
    | succ d ih =>
      intro hd
      have := h3 (c + 1 + d) (by omega) (by omega)
      show pm_ac t i (c + 1 + d + 1) = some c
      unfold pm_ac
      rw [if_neg (by omega)]
      exact ih (by omega)
  have := q (i - (c + 1)) (by omega)
  rw [show c + 1 + (i - (c + 1)) = i by omega] at this
  exact this
theorem pm_ar_none {t : Nat → Nat} {i : Nat} (h : ∀ k, k < i → pm_op t k ≠ pm_op t i - 1) : pm_ar t i = none := by
  have q : ∀ k, k ≤ i → pm_ac t i k = none := by
    intro k
    induction k with
    | zero => intro _; rfl
    | succ k ih =>
      intro hk
      unfold pm_ac
      rw [if_neg (h k (by omega))]
      exact ih (by omega)
  exact q i (Nat.le_refl i)
/-- the choices entered at p, and what the component's stack holds of them -/
def pm_Ch (t : Nat → Nat) (n : Nat) (H R : Nat → Int32) : Nat → Nat → Prop
  | 0, p => pm_op t p = 0 ∧ H 0 = -1
  | l + 1, p => pm_op t p = l + 1 ∧ ∃ c, pm_Ar t p c ∧ t c = 123 ∧ pm_st t c = 0 ∧ c < n ∧ R (l + 1) = nI (pm_mt 123 125 t n c + 1) ∧ (t (c + 2) = 63 → H (l + 1) = nI (t (c + 1) - 48)) ∧ (t (c + 2) ≠ 63 → H (l + 1) = H l) ∧ pm_Ch t n H R l c
theorem pm_Ch_op {t : Nat → Nat} {n : Nat} {H R : Nat → Int32} {l p : Nat} (h : pm_Ch t n H R l p) : pm_op t p = l := by
  cases l with
  | zero => exact h.1
  | succ l => exact h.1
theorem pm_Ch_congr {t : Nat → Nat} {n : Nat} {H R H' R' : Nat → Int32} : ∀ l p, (∀ j, j ≤ l → H' j = H j) → (∀ j, j ≤ l → R' j = R j) → pm_Ch t n H R l p → pm_Ch t n H' R' l p := by
  intro l
  induction l with
  | zero => intro p h1 _ h; exact ⟨h.1, by rw [h1 0 (Nat.le_refl 0)]; exact h.2⟩
  | succ l ih =>
    intro p h1 h2 ⟨o, c, c1, c2, c3, c4, c5, c6, c7, c8⟩
    refine ⟨o, c, c1, c2, c3, c4, ?_, ?_, ?_, ih c (fun j hj => h1 j (by omega)) (fun j hj => h2 j (by omega)) c8⟩
    · rw [h2 _ (Nat.le_refl _)]; exact c5
    · rw [h1 _ (Nat.le_refl _)]; exact c6
    · rw [h1 _ (Nat.le_refl _), h1 l (by omega)]; exact c7
theorem pm_Ch_move {t : Nat → Nat} {n : Nat} {H R : Nat → Int32} {l p q : Nat} (h : pm_Ch t n H R l p) (hq : p < q) (ho : pm_op t q = pm_op t p) (hk : ∀ k, p ≤ k → k < q → pm_op t p ≤ pm_op t k) : pm_Ch t n H R l q := by
  cases l with
  | zero => exact ⟨by rw [ho]; exact h.1, h.2⟩
  | succ l =>
    obtain ⟨o, c, ⟨a1, a2, a3⟩, c2⟩ := h
    refine ⟨by rw [ho]; exact o, c, ⟨by omega, by omega, fun k k1 k2 => ?_⟩, c2⟩
    rcases Nat.lt_or_ge k p with x | x
    · rw [ho]; exact a3 k k1 x
    · rw [ho]; exact hk k x k2
theorem pm_Ch_push {t : Nat → Nat} {n : Nat} {H R : Nat → Int32} {l p b : Nat} (h : pm_Ch t n H R l p) (hn : p < n) (hp : t p = 123) (hs : pm_st t p = 0) (hb : p < b) (ho : pm_op t b = pm_op t p + 1) (hk : ∀ k, p < k → k ≤ b → pm_op t p + 1 ≤ pm_op t k) (hR : R (l + 1) = nI (pm_mt 123 125 t n p + 1)) (h1 : t (p + 2) = 63 → H (l + 1) = nI (t (p + 1) - 48)) (h2 : t (p + 2) ≠ 63 → H (l + 1) = H l) : pm_Ch t n H R (l + 1) b := by
  have o := pm_Ch_op h
  exact ⟨by omega, p, ⟨hb, by omega, fun k k1 k2 => by have := hk k k1 (by omega); omega⟩, hp, hs, hn, hR, h1, h2, h⟩
/-- a sound text's facts at one place -/
theorem pm_SndI {t : Nat → Nat} {n k : Nat} (S : pm_Snd t n) (h : k ≤ n) : pm_st t k ≠ 7 ∧ pm_st t k ≤ 6 ∧ 0 ≤ pm_op t k ∧ pm_op t k ≤ 4 ∧ (pm_st t k ≠ 0 → 1 ≤ pm_op t k) ∧ (pm_st t k = 0 → pm_pd t k = pm_op t k) ∧ (pm_st t k ≠ 0 → pm_pd t k = pm_op t k - 1) := by
  have a := pm_accI S.2 h
  have b := pm_inv t k a
  exact ⟨a, b.1, b.2.1, S.1 k h, b.2.2⟩
theorem pm_SndN {t : Nat → Nat} {n : Nat} (S : pm_Snd t n) : pm_op t n = 0 ∧ pm_pd t n = 0 := by
  have := pm_SndI S (Nat.le_refl n)
  have a := S.2.1
  have b := S.2.2
  omega
theorem pm_brace {t : Nat → Nat} {n p : Nat} (S : pm_Snd t n) (hp : p < n) (hs : pm_st t p = 0) (hc : t p = 123) : p + 2 < n ∧ 48 ≤ t (p + 1) ∧ t (p + 1) ≤ 51 ∧ pm_op t (p + 1) = pm_op t p + 1 ∧ pm_op t (p + 2) = pm_op t p + 1 ∧ ((t (p + 2) = 125 ∧ pm_st t (p + 3) = 0 ∧ pm_op t (p + 3) = pm_op t p) ∨ ((t (p + 2) = 63 ∨ t (p + 2) = 58) ∧ p + 3 < n ∧ pm_st t (p + 3) = 3 ∧ pm_op t (p + 3) = pm_op t p + 1)) := by
  have A := S.2
  have s := pm_step t p (pm_accS A hp)
  have s1 : pm_st t (p + 1) = 1 ∧ pm_op t (p + 1) = pm_op t p + 1 := by
    unfold pm_le pm_pl pm_dg at s
    omega
  have l1 := pm_accL A (k := p + 1) (by omega) (by omega)
  have s' := pm_step t (p + 1) (pm_accS A l1)
  rw [show p + 1 + 1 = p + 2 by omega] at s'
  have s2 : pm_st t (p + 2) = 2 ∧ 48 ≤ t (p + 1) ∧ t (p + 1) < 52 ∧ pm_op t (p + 2) = pm_op t p + 1 := by
    unfold pm_le pm_pl pm_dg at s'
    omega
  have l2 := pm_accL A (k := p + 2) (by omega) (by omega)
  have s'' := pm_step t (p + 2) (pm_accS A l2)
  rw [show p + 2 + 1 = p + 3 by omega] at s''
  have s3 : (t (p + 2) = 125 ∧ pm_st t (p + 3) = 0 ∧ pm_op t (p + 3) = pm_op t p) ∨ ((t (p + 2) = 63 ∨ t (p + 2) = 58) ∧ pm_st t (p + 3) = 3 ∧ pm_op t (p + 3) = pm_op t p + 1) := by
    unfold pm_le pm_pl pm_dg at s''
    omega
  refine ⟨l2, s2.2.1, by omega, s1.2, s2.2.2.2, ?_⟩
  rcases s3 with s3 | s3
  · exact Or.inl s3
  · exact Or.inr ⟨s3.1, pm_accL A (by omega) (by omega), s3.2⟩
theorem pm_mess {t : Nat → Nat} {n p : Nat} (S : pm_Snd t n) (hp : p < n) (hs : pm_st t p = 0) (h1 : t p ≠ 123) (h2 : t p ≠ 41) : (t p = 35 ∨ pm_pl (t p)) ∧ pm_st t (p + 1) = 0 ∧ pm_op t (p + 1) = pm_op t p := by
  have s := pm_step t p (pm_accS S.2 hp)
  unfold pm_le pm_pl pm_dg at *
  omega
theorem pm_paren {t : Nat → Nat} {n p : Nat} (S : pm_Snd t n) (hp : p < n) (hs : pm_st t p = 0) (h2 : t p = 41) : 0 < pm_op t p := by
  have s := pm_step t p (pm_accS S.2 hp)
  unfold pm_le pm_pl pm_dg at *
  omega
/-- the end of a choice -/
theorem pm_cend {t : Nat → Nat} {n p : Nat} (S : pm_Snd t n) (hp : p < n) (hc : t p = 123) : p < pm_mt 123 125 t n p ∧ pm_mt 123 125 t n p < n ∧ pm_op t (pm_mt 123 125 t n p + 1) = pm_op t p ∧ pm_st t (pm_mt 123 125 t n p + 1) = 0 ∧ ∀ j, p < j → j ≤ pm_mt 123 125 t n p → pm_op t p + 1 ≤ pm_op t j := by
  have hn := pm_SndN S
  have i := pm_SndI S (Nat.le_of_lt hp)
  obtain ⟨a, b, c, d, e⟩ := pm_mt_ok (a := 123) (b := 125) (t := t) (by decide) hp hc (by unfold pm_op at hn i; omega)
  refine ⟨a, b, c, ?_, e⟩
  have s := pm_step t (pm_mt 123 125 t n p) (pm_accS S.2 b)
  generalize pm_mt 123 125 t n p = f at *
  unfold pm_le pm_pl pm_dg at s
  omega
/-! key places of the choice at p -/
def pm_pn (t : Nat → Nat) (q : Nat) : Nat := if t q = 61 then q + 2 else q + 1
def pm_Ky (t : Nat → Nat) (n p q : Nat) : Prop := p < q ∧ q < n ∧ (pm_st t q = 3 ∨ pm_st t q = 4) ∧ pm_op t q = pm_op t p + 1 ∧ ∀ k, p < k → k ≤ q → pm_op t p + 1 ≤ pm_op t k
def pm_In (t : Nat → Nat) (n p b : Nat) : Prop := p < b ∧ b ≤ n ∧ pm_st t b = 0 ∧ pm_op t b = pm_op t p + 1 ∧ ∀ k, p < k → k ≤ b → pm_op t p + 1 ≤ pm_op t k
theorem pm_Ky0 {t : Nat → Nat} {n p : Nat} (S : pm_Snd t n) (hp : p < n) (hs : pm_st t p = 0) (hc : t p = 123) (hv : t (p + 2) ≠ 125) : pm_Ky t n p (p + 3) := by
  obtain ⟨a, b, c, d, e, f⟩ := pm_brace S hp hs hc
  rcases f with f | f
  · exact absurd f.1 hv
  · refine ⟨by omega, f.2.1, Or.inl f.2.2.1, f.2.2.2, fun k k1 k2 => ?_⟩
    rcases (by omega : k = p + 1 ∨ k = p + 2 ∨ k = p + 3) with x | x | x <;> rw [x] <;> omega
theorem pm_KyO {t : Nat → Nat} {n p q : Nat} (S : pm_Snd t n) (K : pm_Ky t n p q) (hv : t q ≠ 125) : pm_pn t q < n ∧ q < pm_pn t q ∧ t (pm_pn t q) = 40 ∧ (t q = 61 → pm_dg (t (q + 1)) ∧ q + 1 < n) ∧ (t q ≠ 61 → pm_le (t q)) ∧ pm_st t (pm_pn t q) = 6 ∧ pm_In t n p (pm_pn t q + 1) := by
  obtain ⟨k1, k2, k3, k4, k5⟩ := K
  have A := S.2
  have s := pm_step t q (pm_accS A k2)
  by_cases z : t q = 61
  · have e : pm_pn t q = q + 2 := if_pos z
    have s1 : pm_st t (q + 1) = 5 ∧ pm_op t (q + 1) = pm_op t q := by
      unfold pm_le pm_pl pm_dg at s
      omega
    have l1 := pm_accL A (k := q + 1) (by omega) (by omega)
    have s' := pm_step t (q + 1) (pm_accS A l1)
    rw [show q + 1 + 1 = q + 2 by omega] at s'
    have s2 : pm_dg (t (q + 1)) ∧ pm_st t (q + 2) = 6 ∧ pm_op t (q + 2) = pm_op t q := by
      unfold pm_le pm_pl pm_dg at *
      omega
    have l2 := pm_accL A (k := q + 2) (by omega) (by omega)
    have s'' := pm_step t (q + 2) (pm_accS A l2)
    rw [show q + 2 + 1 = q + 3 by omega] at s''
    have s3 : t (q + 2) = 40 ∧ pm_st t (q + 3) = 0 ∧ pm_op t (q + 3) = pm_op t q := by
      unfold pm_le pm_pl pm_dg at *
      omega
    rw [e]
    refine ⟨l2, by omega, s3.1, fun _ => ⟨s2.1, l1⟩, fun y => absurd z y, s2.2.1, by omega, by omega, s3.2.1, by show pm_op t (q + 3) = _; omega, fun k x y => ?_⟩
    rcases (by omega : k ≤ q ∨ k = q + 1 ∨ k = q + 2 ∨ k = q + 3) with h | h | h | h
    · exact k5 k x h
    · rw [h]; omega
    · rw [h]; omega
    · rw [h]; omega
  · have e : pm_pn t q = q + 1 := if_neg z
    have s1 : pm_le (t q) ∧ pm_st t (q + 1) = 6 ∧ pm_op t (q + 1) = pm_op t q := by
      unfold pm_le pm_pl pm_dg at *
      omega
    have l1 := pm_accL A (k := q + 1) (by omega) (by omega)
    have s' := pm_step t (q + 1) (pm_accS A l1)
    rw [show q + 1 + 1 = q + 2 by omega] at s'
    have s2 : t (q + 1) = 40 ∧ pm_st t (q + 2) = 0 ∧ pm_op t (q + 2) = pm_op t q := by
      unfold pm_le pm_pl pm_dg at *
      omega
    rw [e]
    refine ⟨l1, by omega, s2.1, fun y => absurd y z, fun _ => s1.1, s1.2.1, by omega, by omega, s2.2.1, by show pm_op t (q + 2) = _; omega, fun k x y => ?_⟩
    rcases (by omega : k ≤ q ∨ k = q + 1 ∨ k = q + 2) with h | h | h
    · exact k5 k x h
    · rw [h]; omega
    · rw [h]; omega
theorem pm_KyN {t : Nat → Nat} {n p q : Nat} (S : pm_Snd t n) (K : pm_Ky t n p q) (hv : t q ≠ 125) : pm_pn t q < pm_mt 40 41 t n (pm_pn t q) ∧ pm_mt 40 41 t n (pm_pn t q) < n ∧ pm_Ky t n p (pm_mt 40 41 t n (pm_pn t q) + 1) := by
  obtain ⟨o1, o2, o3, o4, o5, o6, p1, p2, p3, p4, p5⟩ := pm_KyO S K hv
  have hn := pm_SndN S
  have i := pm_SndI S (Nat.le_of_lt o1)
  obtain ⟨a, b, c, d, e⟩ := pm_mt_ok (a := 40) (b := 41) (t := t) (by decide) o1 o3 (by
    have : pm_cn 40 41 t n = 0 := hn.2
    have : pm_pd t (pm_pn t q) = pm_op t (pm_pn t q) - 1 := i.2.2.2.2.2.2 (by omega)
    unfold pm_pd at this
    omega)
  have s := pm_step t (pm_mt 40 41 t n (pm_pn t q)) (pm_accS S.2 b)
  have oo : pm_op t (pm_pn t q) = pm_op t p + 1 := by
    have z := (pm_cn3 123 125 t (pm_pn t q) (by decide)).2.2 (by omega) (by omega)
    unfold pm_op at *
    omega
  have pp : pm_pd t (pm_pn t q) = pm_op t p := by
    have : pm_pd t (pm_pn t q) = pm_op t (pm_pn t q) - 1 := i.2.2.2.2.2.2 (by omega)
    omega
  have e' : ∀ j, pm_pn t q < j → j ≤ pm_mt 40 41 t n (pm_pn t q) → pm_op t p + 1 ≤ pm_pd t j := fun j x y => by
    have := e j x y
    unfold pm_pd at *
    omega
  have c' : pm_pd t (pm_mt 40 41 t n (pm_pn t q) + 1) = pm_op t p := by
    unfold pm_pd at *
    omega
  generalize pm_mt 40 41 t n (pm_pn t q) = f at *
  generalize pm_pn t q = o at *
  have s4 : pm_st t (f + 1) = 4 := by
    unfold pm_le pm_pl pm_dg at s
    omega
  have i2 := pm_SndI S (k := f + 1) (by omega)
  have l := pm_accL S.2 (k := f + 1) (by omega) (by omega)
  have of : pm_op t (f + 1) = pm_op t p + 1 := by
    have := i2.2.2.2.2.2.2 (by omega)
    omega
  refine ⟨a, b, by omega, l, Or.inr s4, of, fun k x y => ?_⟩
  rcases Nat.lt_or_ge o k with h | h
  · rcases Nat.lt_or_ge f k with g | g
    · rw [show k = f + 1 by omega]; omega
    · have w := e' k h g
      have i3 := pm_SndI S (k := k) (by omega)
      omega
  · exact p5 k x (by omega)
/-! the first branch with a property; the component's walk with ranks -/
def pm_fd (t : Nat → Nat) (n : Nat) (P : Nat → Bool) : Nat → Nat → Option Nat
  | 0, _ => none
  | d + 1, q => if n ≤ q ∨ t q = 125 then none else if P q = true then some (pm_pn t q + 1) else pm_fd t n P d (pm_mt 40 41 t n (pm_pn t q) + 1)
def pm_xr (t : Nat → Nat) (n : Nat) (rk : Nat → Nat) : Nat → Nat → Option Nat → Nat → Option Nat
  | 0, _, ch, _ => ch
  | d + 1, q, ch, r => if n ≤ q ∨ t q = 125 then ch else if r < rk q then pm_xr t n rk d (pm_mt 40 41 t n (pm_pn t q) + 1) (some (pm_pn t q + 1)) (rk q) else pm_xr t n rk d (pm_mt 40 41 t n (pm_pn t q) + 1) ch r
def pm_or (a b : Option Nat) : Option Nat := match a with
  | some x => some x
  | none => b
def pm_sel (t : Nat → Nat) (n : Nat) (P3 P2 P1 : Nat → Bool) (d q : Nat) (ch : Option Nat) (r : Nat) : Option Nat :=
  if 3 ≤ r then ch else pm_or (pm_fd t n P3 d q) (if 2 ≤ r then ch else pm_or (pm_fd t n P2 d q) (if 1 ≤ r then ch else pm_or (pm_fd t n P1 d q) ch))
def pm_rk (P3 P2 P1 : Nat → Bool) (q : Nat) : Nat := if P3 q = true then 3 else if P2 q = true then 2 else if P1 q = true then 1 else 0
theorem pm_xr_sel (t : Nat → Nat) (n : Nat) (P3 P2 P1 : Nat → Bool) : ∀ d q ch r, pm_xr t n (pm_rk P3 P2 P1) d q ch r = pm_sel t n P3 P2 P1 d q ch r := by
  intro d
  induction d with
  | zero =>
    intro q ch r
    unfold pm_xr pm_sel pm_fd pm_or
    simp
  | succ d ih =>
    intro q ch r
    unfold pm_xr
    by_cases z : n ≤ q ∨ t q = 125
    · rw [if_pos z]
      unfold pm_sel pm_fd
      rw [if_pos z, if_pos z, if_pos z]
      unfold pm_or
      simp
    · rw [if_neg z, ih, ih]
      unfold pm_sel
      rw [pm_fd, if_neg z, pm_fd, if_neg z, pm_fd, if_neg z]
      generalize pm_mt 40 41 t n (pm_pn t q) + 1 = q'
      generalize pm_fd t n P3 d q' = A3
      generalize pm_fd t n P2 d q' = A2
      generalize pm_fd t n P1 d q' = A1
      unfold pm_rk
      rcases (by omega : r = 0 ∨ r = 1 ∨ r = 2 ∨ 3 ≤ r) with r0 | r0 | r0 | r0
      · subst r0
        by_cases a : P3 q = true <;> by_cases b : P2 q = true <;> by_cases c : P1 q = true <;> simp [a, b, c, pm_or]
      · subst r0
        by_cases a : P3 q = true <;> by_cases b : P2 q = true <;> by_cases c : P1 q = true <;> simp [a, b, c, pm_or]
      · subst r0
        by_cases a : P3 q = true <;> by_cases b : P2 q = true <;> by_cases c : P1 q = true <;> simp [a, b, c, pm_or]
      · have l3 : ¬ r < 3 := by omega
        have l2 : ¬ r < 2 := by omega
        have l1 : ¬ r < 1 := by omega
        have l0 : ¬ r < 0 := by omega
        by_cases a : P3 q = true <;> by_cases b : P2 q = true <;> by_cases c : P1 q = true <;> simp [a, b, c, pm_or, r0, l3, l2, l1, l0]
theorem pm_fd_in {t : Nat → Nat} {n p : Nat} (S : pm_Snd t n) (P : Nat → Bool) : ∀ d q b, pm_Ky t n p q → pm_fd t n P d q = some b → pm_In t n p b := by
  intro d
  induction d with
  | zero => intro q b _ h; exact absurd h (by simp [pm_fd])
  | succ d ih =>
    intro q b K h
    rw [pm_fd] at h
    by_cases z : n ≤ q ∨ t q = 125
    · rw [if_pos z] at h; exact absurd h (by simp)
    · rw [if_neg z] at h
      have hv : t q ≠ 125 := fun y => z (Or.inr y)
      by_cases a : P q = true
      · rw [if_pos a] at h
        have e : pm_pn t q + 1 = b := Option.some.inj h
        rw [← e]
        exact (pm_KyO S K hv).2.2.2.2.2.2
      · rw [if_neg a] at h
        exact ih _ b (pm_KyN S K hv).2.2 h
/-- two properties that agree at every key place find the same -/
theorem pm_fd_eq {t : Nat → Nat} {n p : Nat} (S : pm_Snd t n) (P Q : Nat → Bool) (h : ∀ q, pm_Ky t n p q → t q ≠ 125 → P q = Q q) : ∀ d q, pm_Ky t n p q → pm_fd t n P d q = pm_fd t n Q d q := by
  intro d
  induction d with
  | zero => intro q _; rfl
  | succ d ih =>
    intro q K
    rw [pm_fd, pm_fd]
    by_cases z : n ≤ q ∨ t q = 125
    · rw [if_pos z, if_pos z]
    · have hv : t q ≠ 125 := fun y => z (Or.inr y)
      rw [if_neg z, if_neg z, h q K hv, ih _ (pm_KyN S K hv).2.2]
end
section
/-! what is put: characters behind a count that may pass the end; a number's characters; letters -/
def pm_pt (g : Nat → Int32) (w c : Nat) : Nat → Int32 := if w < 120 then upd g w (nI c) else g
def pm_ps : List Nat → (Nat → Int32) → Nat → (Nat → Int32)
  | [], g, _ => g
  | c :: l, g, w => pm_ps l (pm_pt g w c) (w + 1)
theorem pm_ps_app : ∀ (l k : List Nat) (g : Nat → Int32) (w : Nat), pm_ps (l ++ k) g w = pm_ps k (pm_ps l g w) (w + l.length) := by
  intro l
  induction l with
  | nil => intro k g w; rfl
  | cons c l ih =>
    intro k g w
    show pm_ps (l ++ k) (pm_pt g w c) (w + 1) = pm_ps k (pm_ps l (pm_pt g w c) (w + 1)) (w + (l.length + 1))
    rw [ih, show w + 1 + l.length = w + (l.length + 1) by omega]
def pm_Eq (g h : Nat → Int32) (w : Nat) : Prop := ∀ j, j < w → j < 120 → g j = h j
theorem pm_Eq_pt {g h : Nat → Int32} {w : Nat} (c : Nat) (E : pm_Eq g h w) : pm_Eq (pm_pt g w c) (pm_pt h w c) (w + 1) := by
  intro j h1 h2
  unfold pm_pt
  by_cases z : w < 120
  · rw [if_pos z, if_pos z]
    by_cases y : j = w
    · subst y; rw [pk_us, pk_us]
    · rw [pk_un y, pk_un y]; exact E j (by omega) h2
  · rw [if_neg z, if_neg z]; exact E j (by omega) h2
theorem pm_Eq_ps : ∀ (l : List Nat) {g h : Nat → Int32} {w : Nat}, pm_Eq g h w → pm_Eq (pm_ps l g w) (pm_ps l h w) (w + l.length) := by
  intro l
  induction l with
  | nil => intro g h w E; exact E
  | cons c l ih =>
    intro g h w E
    have := ih (pm_Eq_pt c E)
    rw [show w + 1 + l.length = w + (c :: l).length by simp only [List.length_cons]; omega] at this
    exact this
def pm_dl (m : Nat) : Nat → List Nat
  | 0 => []
  | k + 1 => (if k = 0 ∨ 10 ^ k ≤ m then [48 + m / 10 ^ k % 10] else []) ++ pm_dl m k
theorem pm_dl_len (m : Nat) : ∀ k, (pm_dl m k).length ≤ k := by
  intro k
  induction k with
  | zero => exact Nat.le_refl _
  | succ k ih =>
    unfold pm_dl
    rw [List.length_append]
    split <;> simp only [List.length_cons, List.length_nil] <;> omega
def pm_nl (v : Int32) : List Nat := (if v < 0 then [45] else []) ++ pm_dl v.toInt.natAbs 10
theorem pm_nl_len (v : Int32) : (pm_nl v).length ≤ 11 := by
  have := pm_dl_len v.toInt.natAbs 10
  unfold pm_nl
  rw [List.length_append]
  split <;> simp only [List.length_cons, List.length_nil] <;> omega
def pm_un : Nat → Nat
  | 0 => 0
  | k + 1 => 10 ^ k
def pm_sc : Nat → Nat
  | 0 => 1
  | k + 1 => 10 ^ k
theorem pm_p10 (k : Nat) (h : k ≤ 9) : 1 ≤ 10 ^ k ∧ 10 ^ k ≤ 1000000000 :=
  ⟨Nat.pow_pos (by decide), Nat.pow_le_pow_right (n := 10) (by decide) h⟩
theorem pm_un_div (k : Nat) : pm_un (k + 1) / 10 = pm_un k := by
  cases k with
  | zero => rfl
  | succ k =>
    show 10 ^ (k + 1) / 10 = 10 ^ k
    rw [Nat.pow_succ]
    exact Nat.mul_div_cancel _ (by decide)
theorem pm_un_le (k : Nat) (h : k ≤ 10) : pm_un k ≤ 1000000000 := by
  cases k with
  | zero => exact Nat.zero_le _
  | succ k => exact (pm_p10 k (by omega)).2
theorem pm_sc_le (k : Nat) (h : k ≤ 10) : 1 ≤ pm_sc k ∧ pm_sc k ≤ 1000000000 := by
  cases k with
  | zero => exact ⟨Nat.le_refl _, by decide⟩
  | succ k => exact pm_p10 k (by omega)
theorem pm_un1 (k : Nat) : pm_un (k + 1) = 1 ↔ k = 0 := by
  constructor
  · intro h
    cases k with
    | zero => rfl
    | succ k =>
      have h : 10 ^ (k + 1) = 1 := h
      rw [Nat.pow_succ] at h
      have : 1 ≤ 10 ^ k := Nat.pow_pos (by decide)
      omega
  · intro h; subst h; rfl
theorem pm_begun (m k : Nat) : 10 ^ k ≤ m ↔ (10 ^ (k + 1) ≤ m ∨ 0 < m / 10 ^ k % 10) := by
  have p : 0 < 10 ^ k := Nat.pow_pos (by decide)
  have e1 : 10 ^ k ≤ m ↔ 1 ≤ m / 10 ^ k := by rw [Nat.le_div_iff_mul_le p, Nat.one_mul]
  have e2 : 10 ^ (k + 1) ≤ m ↔ 10 ≤ m / 10 ^ k := by rw [Nat.le_div_iff_mul_le p, Nat.pow_succ, Nat.mul_comm 10]
  rw [e1, e2]
  clear e1 e2
  generalize m / 10 ^ k = q
  omega
def pm_pL (r m : Nat) : Nat :=
  if r = 0 then (if m = 1 then 111 else 120)
  else if r = 1 then (if m % 10 = 1 ∧ m % 100 ≠ 11 then 111 else if 2 ≤ m % 10 ∧ m % 10 ≤ 4 ∧ (m % 100 < 12 ∨ 14 < m % 100) then 102 else 109)
  else if m = 0 then 122 else if m = 1 then 111 else if m = 2 then 116 else if 3 ≤ m % 100 ∧ m % 100 ≤ 10 then 102 else if 11 ≤ m % 100 then 109 else 120
/-- the absolute value of an int, as a long -/
theorem pm_absB (v : Int32) : v.toInt.natAbs ≤ 2147483648 := by
  have h1 := Int32.toInt_lt v
  have h2 := Int32.le_toInt v
  omega
theorem pm_ltZ (v : Int32) : v < 0 ↔ v.toInt < 0 := by
  rw [Int32.lt_iff_toInt_lt, show (0 : Int32).toInt = 0 from rfl]
theorem pm_absP (v : Int32) (h : ¬ v < 0) : v.toInt64 = lN v.toInt.natAbs := by
  rw [pm_ltZ] at h
  have b := pm_absB v
  apply Int64.toInt_inj.mp
  rw [pk_lT (by omega), Int32.toInt_toInt64]
  omega
theorem pm_absM (v : Int32) (h : v < 0) : -v.toInt64 = lN v.toInt.natAbs := by
  rw [pm_ltZ] at h
  have b := pm_absB v
  apply Int64.toInt_inj.mp
  rw [pk_lT (by omega), Int64.toInt_neg, Int32.toInt_toInt64]
  have : (-v.toInt).bmod (2 ^ 64) = -v.toInt := Int.bmod_eq_of_le (by omega) (by omega)
  rw [this]
  omega
theorem pm_lltZ (v : Int32) : v.toInt64 < 0 ↔ v < 0 := by
  rw [pm_ltZ, Int64.lt_iff_toInt_lt, Int32.toInt_toInt64, show (0 : Int64).toInt = 0 from rfl]
end
section
/-! the component's walks: characters, the automaton, sound -/
section
variable {rs ty wr lb lv lk : Int32} {T V O H R : Nat → Int32} {t : Nat → Nat} {n : Nat}
theorem pm_xLe {post : Int32 → Prop} {c : Nat} (hc : c < 65536) (h1 : pm_le c → post 1) (h0 : ¬ pm_le c → post 0) : wpX_isLetter post (nI c) := by
  unfold wpX_isLetter
  exact pk_lt c 97 (fun h => h0 (fun z => absurd z.1 (by omega))) (fun h => pk_lt 122 c (fun g => h0 (fun z => absurd z.2 (by omega))) (fun g => h1 ⟨h, g⟩))
theorem pm_xDg {post : Int32 → Prop} {c : Nat} (hc : c < 65536) (h1 : pm_dg c → post 1) (h0 : ¬ pm_dg c → post 0) : wpX_isDigit post (nI c) := by
  unfold wpX_isDigit
  exact pk_lt c 48 (fun h => h0 (fun z => absurd z.1 (by omega))) (fun h => pk_lt 57 c (fun g => h0 (fun z => absurd z.2 (by omega))) (fun g => h1 ⟨h, g⟩))
theorem pm_xPl {post : Int32 → Prop} {c : Nat} (hc : c < 65536) (h1 : pm_pl c → post 1) (h0 : ¬ pm_pl c → post 0) : wpX_isPlain post (nI c) := by
  unfold wpX_isPlain
  refine pm_xLe hc (fun h => ?_) (fun h => ?_)
  · exact br_f (by decide) (h1 (Or.inl h))
  · refine br_t rfl ?_
    refine pm_xDg hc (fun g => ?_) (fun g => ?_)
    · exact br_f (by decide) (h1 (Or.inr (Or.inl g)))
    · refine br_t rfl ?_
      refine pk_eq c 32 (fun e => h1 (by unfold pm_pl; omega)) (fun e1 => ?_)
      refine pk_eq c 44 (fun e => h1 (by unfold pm_pl; omega)) (fun e2 => ?_)
      refine pk_eq c 46 (fun e => h1 (by unfold pm_pl; omega)) (fun e3 => ?_)
      refine pk_eq c 33 (fun e => h1 (by unfold pm_pl; omega)) (fun e4 => ?_)
      refine pk_eq c 45 (fun e => h1 (by unfold pm_pl; omega)) (fun e5 => ?_)
      exact h0 (by unfold pm_le at h; unfold pm_dg at g; unfold pm_pl; omega)
abbrev pm_mk (c : Nat) : Prop := c = 35 ∨ c = 123 ∨ c = 125 ∨ c = 40 ∨ c = 41 ∨ c = 63 ∨ c = 58 ∨ c = 61
theorem pm_xMk {post : Int32 → Prop} {c : Nat} (hc : c < 65536) (h1 : pm_mk c → post 1) (h0 : ¬ pm_mk c → post 0) : wpX_isMark post (nI c) := by
  unfold wpX_isMark
  refine pk_eq c 35 (fun e => h1 (by unfold pm_mk; omega)) (fun e1 => ?_)
  refine pk_eq c 123 (fun e => h1 (by unfold pm_mk; omega)) (fun e2 => ?_)
  refine pk_eq c 125 (fun e => h1 (by unfold pm_mk; omega)) (fun e3 => ?_)
  refine pk_eq c 40 (fun e => h1 (by unfold pm_mk; omega)) (fun e4 => ?_)
  refine pk_eq c 41 (fun e => h1 (by unfold pm_mk; omega)) (fun e5 => ?_)
  refine pk_eq c 63 (fun e => h1 (by unfold pm_mk; omega)) (fun e6 => ?_)
  refine pk_eq c 58 (fun e => h1 (by unfold pm_mk; omega)) (fun e7 => ?_)
  refine pk_eq c 61 (fun e => h1 (by unfold pm_mk; omega)) (fun e8 => ?_)
  exact h0 (by unfold pm_mk; omega)
theorem pm_xPiece {post : Int32 → Prop} {c o : Nat} (hc : c < 65536) (ho : o < 65536) (h : ∀ r, r = pm_sa 0 c o → post (nI r)) : wpX_stateAfterPiece post (nI c) (nI o) := by
  unfold wpX_stateAfterPiece
  refine pk_eq c 123 (fun e => h 1 (by unfold pm_sa; grind)) (fun e1 => ?_)
  refine pk_eq c 41 (fun e => ?_) (fun e2 => ?_)
  · exact pk_le o 0 (fun g => h 7 (by unfold pm_sa; grind)) (fun g => h 4 (by unfold pm_sa; grind))
  · refine pk_eq c 35 (fun e => h 0 (by unfold pm_sa; grind)) (fun e3 => ?_)
    refine pm_xPl hc (fun g => ?_) (fun g => ?_)
    · exact br_f (by decide) (h 0 (by unfold pm_sa; rw [if_pos rfl, if_neg e1, if_neg e2, if_pos (Or.inr g)]))
    · exact br_t rfl (h 7 (by unfold pm_sa; rw [if_pos rfl, if_neg e1, if_neg e2, if_neg (fun z => z.elim e3 g)]))
theorem pm_xKey {post : Int32 → Prop} {c : Nat} (hc : c < 65536) (h : ∀ r, r = pm_ks c → post (nI r)) : wpX_stateAfterKeyStart post (nI c) := by
  unfold wpX_stateAfterKeyStart
  refine pk_eq c 61 (fun e => h 5 (by unfold pm_ks; rw [if_pos e])) (fun e1 => ?_)
  refine pm_xLe hc (fun g => ?_) (fun g => ?_)
  · exact br_f (by decide) (h 6 (by unfold pm_ks; rw [if_neg e1, if_pos g]))
  · exact br_t rfl (h 7 (by unfold pm_ks; rw [if_neg e1, if_neg g]))
theorem pm_xSA {post : Int32 → Prop} {s c o : Nat} (hs : s ≤ 6) (hc : c < 65536) (ho : o < 65536) (h : ∀ r, r = pm_sa s c o → post (nI r)) : wpX_stateAfter post (nI s) (nI c) (nI o) := by
  unfold wpX_stateAfter
  refine pk_lt s 0 (fun z => absurd z (by omega)) (fun _ => ?_)
  refine pk_lt 6 s (fun z => absurd z (by omega)) (fun _ => ?_)
  refine pk_eq s 0 (fun e => ?_) (fun e0 => ?_)
  · subst e; exact pm_xPiece hc ho h
  refine pk_eq s 1 (fun e => ?_) (fun e1 => ?_)
  · subst e
    exact pk_lt c 48 (fun g => h 7 (by unfold pm_sa; grind)) (fun g => pk_le 52 c (fun g => h 7 (by unfold pm_sa; grind)) (fun g => h 2 (by unfold pm_sa; grind)))
  refine pk_eq s 2 (fun e => ?_) (fun e2 => ?_)
  · subst e
    exact pk_eq c 125 (fun g => h 0 (by unfold pm_sa; grind)) (fun g => pk_eq c 63 (fun g => h 3 (by unfold pm_sa; grind)) (fun g => pk_eq c 58 (fun g => h 3 (by unfold pm_sa; grind)) (fun g => h 7 (by unfold pm_sa; grind))))
  refine pk_eq s 3 (fun e => ?_) (fun e3 => ?_)
  · subst e; exact pm_xKey hc (fun r e => h r e)
  refine pk_eq s 4 (fun e => ?_) (fun e4 => ?_)
  · subst e
    exact pk_eq c 125 (fun g => h 0 (by unfold pm_sa; grind)) (fun g => pm_xKey hc (fun r e => h r (by rw [e]; unfold pm_sa; grind)))
  refine pk_eq s 5 (fun e => ?_) (fun e5 => ?_)
  · subst e
    refine pm_xDg hc (fun g => ?_) (fun g => ?_)
    · exact br_f (by decide) (h 6 (by unfold pm_sa; unfold pm_dg at g; grind))
    · exact br_t rfl (h 7 (by unfold pm_sa; unfold pm_dg at g; grind))
  refine pk_eq s 6 (fun e => ?_) (fun e6 => ?_)
  · subst e
    exact pk_eq c 40 (fun g => h 0 (by unfold pm_sa; grind)) (fun g => h 7 (by unfold pm_sa; grind))
  omega
theorem pm_xSound6 {post : Int32 → Prop} (hT : ∀ j, T j = nI (t j)) (hc : ∀ j, t j < 65536) (hn : n ≤ 96) (h1 : pm_Snd t n → post 1) (h0 : ¬ pm_Snd t n → post 0) : ∀ d p o : Nat, p + d = n → pm_st t p ≠ 7 → pm_op t p = o → (∀ k, k ≤ p → pm_op t k ≤ 4) → ∀ m, d < m → wX_sound_6 post rs (nI n) wr lb lv lk T V O H R m (nI (pm_st t p)) (nI o) (nI p) := by
  intro d
  induction d with
  | zero =>
    intro p o hp hs ho h4 m hm
    obtain ⟨m, rfl⟩ : ∃ k, m = k + 1 := ⟨m - 1, by omega⟩
    obtain rfl : p = n := by omega
    have iv := pm_inv t p hs
    have bd := h4 p (Nat.le_refl p)
    rw [wX_sound_6]
    refine pk_le p p (fun _ => ?_) (fun z => absurd z (by omega))
    refine pk_eq (pm_st t p) 0 (fun e => ?_) (fun e => ?_)
    · exact pk_eq o 0 (fun g => h1 ⟨h4, e, by omega⟩) (fun g => h0 (fun S => g (by have := S.2.2; omega)))
    · exact h0 (fun S => e S.2.1)
  | succ d ih =>
    intro p o hp hs ho h4 m hm
    obtain ⟨m, rfl⟩ : ∃ k, m = k + 1 := ⟨m - 1, by omega⟩
    have iv := pm_inv t p hs
    have bd := h4 p (Nat.le_refl p)
    have key : ∀ x2 : Int32, (pm_st t (p + 1) ≠ 7 → ∃ o' : Nat, x2 = nI o' ∧ pm_op t (p + 1) = o') → wX_sound_53 post (wX_sound_6 post rs (nI n) wr lb lv lk T V O H R m) (nI (pm_st t (p + 1))) x2 (nI p) rs (nI n) wr lb lv lk T V O H R := by
      intro x2 hx
      unfold wX_sound_53
      have sb : pm_st t (p + 1) < 2 ^ 31 := by
        by_cases z : pm_st t (p + 1) = 7
        · omega
        · have := pm_inv t (p + 1) z; omega
      refine pk_eq (pm_st t (p + 1)) 7 (fun e => h0 (fun S => ?_)) (fun e => ?_)
      · exact absurd e (pm_accS S.2 (by omega))
      · obtain ⟨o', rfl, ho'⟩ := hx e
        have b : pm_op t (p + 1) ≤ ((p + 1 : Nat) : Int) := (pm_cnB 123 125 t (by decide) (p + 1)).2
        refine pk_le o' 4 (fun g => nm_r (nI_1 p) ?_) (fun g => h0 (fun S => ?_))
        · exact ih (p + 1) o' (by omega) e ho' (fun k hk => by
            rcases Nat.lt_or_ge k (p + 1) with q | q
            · exact h4 k (by omega)
            · rw [show k = p + 1 by omega]; omega) m (by omega)
        · have := S.1 (p + 1) (by omega)
          omega
    have c3 := pm_cn3 123 125 t p (by decide)
    have hin : vp_in (nI p) 96 := vp_in_nI (by omega) (by decide)
    have hcl : (nI p).toNatClampNeg = p := nI_clamp (by omega)
    rw [wX_sound_6]
    refine pk_le n p (fun z => absurd z (by omega)) (fun _ => ⟨hin, ?_⟩)
    refine nm_r (e' := nI (t p)) (by rw [hcl]; exact hT p) ?_
    refine pm_xSA iv.1 (hc p) (by omega) (fun r hr => ?_)
    have er : r = pm_st t (p + 1) := by rw [hr, pm_st_s]; show _ = pm_sa _ _ (pm_op t p); rw [ho]
    subst er
    have hcp := hc p
    refine pk_eq (t p) 123 (fun e => ?_) (fun e1 => pk_eq (t p) 125 (fun e => ?_) (fun e2 => ?_))
    · refine nm_r (nI_1 o) (key _ (fun _ => ⟨o + 1, rfl, ?_⟩))
      have := c3.1 e
      unfold pm_op at *
      omega
    · refine nm_e (key _ (fun s7 => ?_))
      have := c3.2.1 e
      have iv' := pm_inv t (p + 1) s7
      refine ⟨o - 1, ?_, by unfold pm_op at *; omega⟩
      obtain ⟨o', rfl⟩ : ∃ k, o = k + 1 := ⟨o - 1, by unfold pm_op at *; omega⟩
      exact pk_m1 o'
    · refine key _ (fun _ => ⟨o, rfl, ?_⟩)
      have := c3.2.2 e1 e2
      unfold pm_op at *
      omega
theorem pm_xSound {post : Int32 → Prop} (hT : ∀ j, T j = nI (t j)) (hc : ∀ j, t j < 65536) (hn : n ≤ 96) (h1 : pm_Snd t n → post 1) (h0 : ¬ pm_Snd t n → post 0) : wpX_sound post (rs, nI n, wr, lb, lv, lk, T, V, O, H, R) :=
  ⟨n + 1, pm_xSound6 hT hc hn h1 h0 n 0 0 (by omega) (show (0 : Nat) ≠ 7 by decide) rfl (fun k hk => by rw [show k = 0 by omega]; exact (by decide : (0 : Int) ≤ 4)) (n + 1) (by omega)⟩
end
end
section
/-! the reference's walks: characters, pieces, replacement, sound -/
section
variable {ru nn ln cs lf ct lo : Int32} {T V Q W M : Nat → Int32} {t w : Nat → Nat} {n m : Nat}
theorem pm_yLe {post : Int32 → Prop} {c : Nat} (hc : c < 65536) (h1 : pm_le c → post 1) (h0 : ¬ pm_le c → post 0) : wpY_isLetter post (ru, nn, ln, cs, lf, ct, lo, T, V, Q, W, M) (nI c) := by
  unfold wpY_isLetter
  exact pk_lt c 97 (fun h => h0 (fun z => absurd z.1 (by omega))) (fun h => pk_lt 122 c (fun g => h0 (fun z => absurd z.2 (by omega))) (fun g => h1 ⟨h, g⟩))
theorem pm_yDg {post : Int32 → Prop} {c : Nat} (hc : c < 65536) (h1 : pm_dg c → post 1) (h0 : ¬ pm_dg c → post 0) : wpY_isDigit post (ru, nn, ln, cs, lf, ct, lo, T, V, Q, W, M) (nI c) := by
  unfold wpY_isDigit
  exact pk_lt c 48 (fun h => h0 (fun z => absurd z.1 (by omega))) (fun h => pk_lt 57 c (fun g => h0 (fun z => absurd z.2 (by omega))) (fun g => h1 ⟨h, g⟩))
theorem pm_yPl {post : Int32 → Prop} {c : Nat} (hc : c < 65536) (h1 : pm_pl c → post 1) (h0 : ¬ pm_pl c → post 0) : wpY_isPlain post (ru, nn, ln, cs, lf, ct, lo, T, V, Q, W, M) (nI c) := by
  unfold wpY_isPlain
  refine pm_yLe hc (fun h => ?_) (fun h => ?_)
  · exact br_f (by decide) (h1 (Or.inl h))
  · refine br_t rfl ?_
    refine pm_yDg hc (fun g => ?_) (fun g => ?_)
    · exact br_f (by decide) (h1 (Or.inr (Or.inl g)))
    · refine br_t rfl ?_
      refine pk_eq c 32 (fun e => h1 (by unfold pm_pl; omega)) (fun e1 => ?_)
      refine pk_eq c 44 (fun e => h1 (by unfold pm_pl; omega)) (fun e2 => ?_)
      refine pk_eq c 46 (fun e => h1 (by unfold pm_pl; omega)) (fun e3 => ?_)
      refine pk_eq c 33 (fun e => h1 (by unfold pm_pl; omega)) (fun e4 => ?_)
      refine pk_eq c 45 (fun e => h1 (by unfold pm_pl; omega)) (fun e5 => ?_)
      exact h0 (by unfold pm_le at h; unfold pm_dg at g; unfold pm_pl; omega)
def pm_wa (w : Nat → Nat) (m i : Nat) : Nat := if i < m then w i else 0
theorem pm_wa_lt (hw : ∀ j, w j < 65536) (i : Nat) : pm_wa w m i < 65536 := by
  unfold pm_wa
  split
  · exact hw i
  · omega
theorem pm_wa_in {i : Nat} (h : pm_wa w m i ≠ 0) : i < m ∧ pm_wa w m i = w i := by
  unfold pm_wa at *
  by_cases z : i < m
  · exact ⟨z, if_pos z⟩
  · rw [if_neg z] at h; exact absurd rfl h
theorem pm_yWA {post : Int32 → Prop} {i : Nat} (hW : ∀ j, j < m → W j = nI (w j)) (hm : m ≤ 96) (hi : i < 1000) (h : post (nI (pm_wa w m i))) : wpY_workAt post (ru, nn, ln, cs, nI m, ct, lo, T, V, Q, W, M) (nI i) := by
  unfold wpY_workAt
  refine pk_lt i 0 (fun z => absurd z (by omega)) (fun _ => pk_le m i (fun g => ?_) (fun g => ⟨vp_in_nI (by omega) (by decide), ?_⟩))
  · rw [pm_wa, if_neg (by omega)] at h; exact h
  · rw [nI_clamp (by omega), hW i g]
    rw [pm_wa, if_pos g] at h; exact h
theorem pm_yBE75 {post : Int32 → Prop} {o : Nat} (hW : ∀ j, j < m → W j = nI (w j)) (hw : ∀ j, w j < 65536) (hm : m ≤ 96) (hY : ∀ e, o < e → e < m → w e = 41 → (∀ k, o < k → k < e → (w k = 35 ∨ pm_pl (w k))) → post (nI e)) (hN : ¬ (pm_Acc w m ∧ pm_st w (o + 1) = 0 ∧ 1 ≤ pm_op w (o + 1) ∧ (∀ k, o < k → k < m → w k ≠ 123)) → post (-1)) : ∀ d k, k + d = m → o + 1 ≤ k → (∀ j, o < j → j < k → (w j = 35 ∨ pm_pl (w j))) → ∀ f, d < f → wY_branchEnd_75 post ru nn ln cs (nI m) ct lo T V Q W M f (nI k) := by
  intro d
  induction d with
  | zero =>
    intro k hk ho hp f hf
    obtain ⟨f, rfl⟩ : ∃ x, f = x + 1 := ⟨f - 1, by omega⟩
    rw [wY_branchEnd_75]
    refine pk_le m k (fun _ => hN (fun ⟨A, s, o1, _⟩ => ?_)) (fun z => absurd z (by omega))
    have := (pm_BGrun A s o1 ho (by omega) hp).1
    omega
  | succ d ih =>
    intro k hk ho hp f hf
    obtain ⟨f, rfl⟩ : ∃ x, f = x + 1 := ⟨f - 1, by omega⟩
    have hin : vp_in (nI k) 96 := vp_in_nI (by omega) (by decide)
    have hcl : W (nI k).toNatClampNeg = nI (w k) := by rw [nI_clamp (by omega)]; exact hW k (by omega)
    have hck := hw k
    have nx : (w k = 35 ∨ pm_pl (w k)) → wY_branchEnd_75 post ru nn ln cs (nI m) ct lo T V Q W M f (nI (k + 1)) := fun c =>
      ih (k + 1) (by omega) (by omega) (fun j j1 j2 => by
        rcases Nat.lt_or_ge j k with q | q
        · exact hp j j1 q
        · rw [show j = k by omega]; exact c) f (by omega)
    rw [wY_branchEnd_75]
    dsimp only
    rw [hcl]
    refine pk_le m k (fun z => absurd z (by omega)) (fun _ => ⟨hin, ?_⟩)
    refine pk_eq (w k) 41 (fun e => hY k (by omega) (by omega) e hp) (fun e1 => ⟨hin, ?_⟩)
    refine pm_yPl hck (fun g => ?_) (fun g => ?_)
    · exact br_f (by decide) (nm_r (nI_1 k) (nx (Or.inr g)))
    · refine br_t rfl ⟨hin, ?_⟩
      refine pk_eq (w k) 35 (fun e => nm_r (nI_1 k) (nx (Or.inl e))) (fun e2 => hN (fun ⟨A, s, o1, n1⟩ => ?_))
      have h1 := (pm_BGrun A s o1 ho (by omega) hp).2
      have h2 := n1 k (by omega) (by omega)
      exact h1.elim h2 (fun z => z.elim e1 (fun z => z.elim e2 g))
theorem pm_yBE49 {post : Int32 → Prop} {a o : Nat} (hW : ∀ j, j < m → W j = nI (w j)) (hw : ∀ j, w j < 65536) (hm : m ≤ 96) (ha : a < m) (K : (pm_le (w a) ∧ o = a + 1) ∨ (w a = 61 ∧ pm_dg (w (a + 1)) ∧ o = a + 2)) (hY : ∀ e, pm_BrE w m a e → post (nI e)) (hN : ¬ pm_BG w m a → post (-1)) : wY_branchEnd_49 post (nI o) ru nn ln cs (nI m) ct lo T V Q W M := by
  have oo : o = a + 1 ∨ o = a + 2 := by omega
  have gk : pm_BG w m a → o < m ∧ w o = 40 ∧ pm_st w (o + 1) = 0 ∧ 1 ≤ pm_op w (o + 1) := by
    intro G
    obtain ⟨o', k1, k2, k3, k4, k5⟩ := pm_BGkey G
    have : o' = o := by unfold pm_le pm_dg at *; omega
    subst this
    exact ⟨k2, k3, k4, k5⟩
  unfold wY_branchEnd_49
  refine pk_lt o 0 (fun z => absurd z (by omega)) (fun _ => ?_)
  refine pm_yWA hW hm (by omega) ?_
  have wl := pm_wa_lt (m := m) hw o
  refine pk_eq (pm_wa w m o) 40 (fun e => nm_r (nI_1 o) ?_) (fun e => hN (fun G => ?_))
  · obtain ⟨om, ow⟩ := pm_wa_in (w := w) (m := m) (i := o) (by omega)
    have w40 : w o = 40 := by omega
    refine ⟨m + 1, pm_yBE75 hW hw hm (fun e h1 h2 h3 h4 => hY e ⟨o, K, w40, h1, h2, h3, h4⟩) (fun nG => hN (fun G => nG ?_)) (m - (o + 1)) (o + 1) (by omega) (Nat.le_refl _) (fun j j1 j2 => absurd j1 (by omega)) (m + 1) (by omega)⟩
    obtain ⟨g1, g2, g3, g4⟩ := gk G
    exact ⟨G.1, g3, g4, fun k k1 k2 => G.2.2.2 k (by omega) k2⟩
  · obtain ⟨g1, g2, g3, g4⟩ := gk G
    exact e (by unfold pm_wa; rw [if_pos g1]; exact g2)
theorem pm_yBE {post : Int32 → Prop} {a : Nat} (hW : ∀ j, j < m → W j = nI (w j)) (hw : ∀ j, w j < 65536) (hm : m ≤ 96) (ha : a ≤ m) (hY : ∀ e, pm_BrE w m a e → post (nI e)) (hN : ¬ pm_BG w m a → post (-1)) : wpY_branchEnd post (ru, nn, ln, cs, nI m, ct, lo, T, V, Q, W, M) (nI a) := by
  have l0 := pm_wa_lt (m := m) hw a
  have l1 := pm_wa_lt (m := m) hw (a + 1)
  have bad : (¬ pm_le (pm_wa w m a)) → ¬ (pm_wa w m a = 61 ∧ pm_dg (pm_wa w m (a + 1))) → ¬ pm_BG w m a := by
    intro h1 h2 G
    obtain ⟨o', k1, k2, k3, k4, k5⟩ := pm_BGkey G
    have e1 : pm_wa w m a = w a := by unfold pm_wa; rw [if_pos G.2.1]
    rcases k1 with k1 | k1
    · exact h1 (by rw [e1]; exact k1.1)
    · have e2 : pm_wa w m (a + 1) = w (a + 1) := by unfold pm_wa; rw [if_pos k1.2.2.1]
      exact h2 ⟨by rw [e1]; exact k1.1, by rw [e2]; exact k1.2.1⟩
  have neg : ¬ pm_BG w m a → wY_branchEnd_48 post ru nn ln cs (nI m) ct lo T V Q W M := by
    intro h
    unfold wY_branchEnd_48 wY_branchEnd_49
    exact br_t (by decide) (hN h)
  unfold wpY_branchEnd
  refine pm_yWA hW hm (by omega) ?_
  rw [nI_1 a]
  refine pm_yWA hW hm (by omega) ?_
  refine pm_yLe l0 (fun g => ?_) (fun g => ?_)
  · obtain ⟨am, aw⟩ := pm_wa_in (w := w) (m := m) (i := a) (by unfold pm_le at g; omega)
    exact br_f (by decide) (pm_yBE49 hW hw hm am (Or.inl ⟨by rw [← aw]; exact g, rfl⟩) hY hN)
  · refine br_t rfl ?_
    refine pk_eq (pm_wa w m a) 61 (fun e => ?_) (fun e => neg (bad g (fun z => e z.1)))
    obtain ⟨am, aw⟩ := pm_wa_in (w := w) (m := m) (i := a) (by omega)
    refine pm_yDg l1 (fun d => ?_) (fun d => ?_)
    · obtain ⟨am1, aw1⟩ := pm_wa_in (w := w) (m := m) (i := a + 1) (by unfold pm_dg at d; omega)
      rw [show nI a + 2 = nI (a + 2) from nI_add a 2]
      exact br_f (by decide) (pm_yBE49 hW hw hm am (Or.inr ⟨by omega, by rw [← aw1]; exact d, rfl⟩) hY hN)
    · exact br_t rfl (neg (bad g (fun z => d z.2)))
theorem pm_yPE84 {post : Int32 → Prop} {i : Nat} (hW : ∀ j, j < m → W j = nI (w j)) (hw : ∀ j, w j < 65536) (hm : m ≤ 96) (h123 : w i = 123) (hY : ∀ e, pm_PE w m i e → post (nI e)) (hN : ¬ pm_GD w m i → post (-1)) : ∀ d k a, k + d = 96 → i + 3 + k ≤ a → a ≤ m → pm_PI w i a → (pm_GD w m i → pm_BG w m a) → ∀ f, d < f → wY_pieceEnd_84 post ru nn ln cs (nI m) ct lo T V Q W M f (nI a) (nI k) := by
  intro d
  induction d with
  | zero =>
    intro k a hk ha ham hp hg f hf
    obtain ⟨f, rfl⟩ : ∃ x, f = x + 1 := ⟨f - 1, by omega⟩
    rw [wY_pieceEnd_84]
    exact pk_le 96 k (fun _ => hN (fun G => by have := (hg G).2.1; omega)) (fun z => absurd z (by omega))
  | succ d ih =>
    intro k a hk ha ham hp hg f hf
    obtain ⟨f, rfl⟩ : ∃ x, f = x + 1 := ⟨f - 1, by omega⟩
    rw [wY_pieceEnd_84]
    refine pk_le 96 k (fun z => absurd z (by omega)) (fun _ => ?_)
    refine pm_yBE hW hw hm ham (fun e B => ?_) (fun nb => ?_)
    · have bs := pm_brS hp B
      refine br_t (nI_pos' (by omega)) ?_
      rw [nI_1 e]
      refine pm_yWA hW hm (by omega) ?_
      have wl := pm_wa_lt (m := m) hw (e + 1)
      refine pk_eq (pm_wa w m (e + 1)) 125 (fun c => ?_) (fun c => ?_)
      · obtain ⟨em, ew⟩ := pm_wa_in (w := w) (m := m) (i := e + 1) (by omega)
        exact hY (e + 1) (pm_pieceB h123 (by omega) hp B em (by omega))
      · refine nm_e (nm_r (nI_1 k) ?_)
        refine ih (k + 1) (e + 1) (by omega) (by omega) (by omega) ⟨bs.1, fun z y => Or.inr (bs.2.1 z y)⟩ (fun G => ?_) f (by omega)
        have gs := pm_GDs (hg G) B
        exact gs.2.2 (fun z => c (by unfold pm_wa; rw [if_pos gs.2.1]; exact z))
    · exact br_f (by decide) (hN (fun G => nb (hg G)))
theorem pm_yPE {post : Int32 → Prop} {i : Nat} (hW : ∀ j, j < m → W j = nI (w j)) (hw : ∀ j, w j < 65536) (hm : m ≤ 96) (hi : i < m) (hY : ∀ e, pm_PE w m i e → post (nI e)) (hN : ¬ pm_GD w m i → post (-1)) : wpY_pieceEnd post (ru, nn, ln, cs, nI m, ct, lo, T, V, Q, W, M) (nI i) := by
  have l0 := pm_wa_lt (m := m) hw i
  have l1 := pm_wa_lt (m := m) hw (i + 1)
  have l2 := pm_wa_lt (m := m) hw (i + 2)
  have gd : pm_GD w m i → pm_wa w m i = 123 ∧ 48 ≤ pm_wa w m (i + 1) ∧ pm_wa w m (i + 1) ≤ 51 ∧ (pm_wa w m (i + 2) = 125 ∨ (pm_wa w m (i + 2) = 63 ∨ pm_wa w m (i + 2) = 58)) ∧ (w (i + 2) = 125 ∨ pm_BG w m (i + 3)) := by
    intro G
    obtain ⟨g1, g2, g3, g4⟩ := pm_GD0 G
    unfold pm_wa
    rw [if_pos (by omega), if_pos (by omega), if_pos (by omega)]
    exact ⟨G.2.2.1, g2, g3, g4.elim Or.inl (fun z => Or.inr z.1), g4.elim Or.inl (fun z => Or.inr z.2)⟩
  have a1 : nI i + 1 = nI (i + 1) := nI_1 i
  have a2 : nI i + 2 = nI (i + 2) := nI_add i 2
  have a3 : nI i + 3 = nI (i + 3) := nI_add i 3
  have loop : w i = 123 → (48 ≤ w (i + 1) ∧ w (i + 1) ≤ 51) → i + 2 < m → (w (i + 2) = 63 ∨ w (i + 2) = 58) → ∃ n84 : Nat, wY_pieceEnd_84 post ru nn ln cs (nI m) ct lo T V Q W M n84 (nI (i + 3)) 0 := fun h0 h1 h3 h2 =>
    ⟨97, pm_yPE84 hW hw hm h0 hY hN 96 0 (i + 3) (by omega) (by omega) (by omega) (pm_PI0 h0 h1 h2) (fun G => (gd G).2.2.2.2.elim (fun z => absurd z (by omega)) (fun z => z)) 97 (by omega)⟩
  unfold wpY_pieceEnd
  rw [a1, a2, a3]
  refine pm_yWA hW hm (by omega) ?_
  refine pk_eq (pm_wa w m i) 123 (fun e0 => ?_) (fun e => hN (fun G => e (gd G).1))
  refine pm_yWA hW hm (by omega) ?_
  refine pk_lt (pm_wa w m (i + 1)) 48 (fun e => hN (fun G => absurd (gd G).2.1 (by omega))) (fun e1 => ?_)
  refine pm_yWA hW hm (by omega) ?_
  refine pk_le (pm_wa w m (i + 1)) 51 (fun e2 => ?_) (fun e => hN (fun G => absurd (gd G).2.2.1 (by omega)))
  obtain ⟨m0, w0⟩ := pm_wa_in (w := w) (m := m) (i := i) (by omega)
  obtain ⟨m1, w1⟩ := pm_wa_in (w := w) (m := m) (i := i + 1) (by omega)
  refine pm_yWA hW hm (by omega) ?_
  refine pk_eq (pm_wa w m (i + 2)) 125 (fun e => ?_) (fun e3 => ?_)
  · obtain ⟨m2, w2⟩ := pm_wa_in (w := w) (m := m) (i := i + 2) (by omega)
    exact hY (i + 2) (pm_pieceV (by omega) (by omega) m2 (by omega))
  refine pm_yWA hW hm (by omega) ?_
  refine pk_eq (pm_wa w m (i + 2)) 63 (fun e => ?_) (fun e4 => ?_)
  · obtain ⟨m2, w2⟩ := pm_wa_in (w := w) (m := m) (i := i + 2) (by omega)
    exact nm_e (loop (by omega) (by omega) m2 (by omega))
  refine pm_yWA hW hm (by omega) ?_
  refine pk_eq (pm_wa w m (i + 2)) 58 (fun e => ?_) (fun e5 => hN (fun G => ?_))
  · obtain ⟨m2, w2⟩ := pm_wa_in (w := w) (m := m) (i := i + 2) (by omega)
    exact nm_e (loop (by omega) (by omega) m2 (by omega))
  · exact (gd G).2.2.2.1.elim e3 (fun z => z.elim e4 e5)
/-! replacement -/
def pm_rp (w : Nat → Nat) (i e j : Nat) : Nat := if j < i then w j else if j = i then 33 else w (j + (e - i))
theorem pm_yRO32 {post : Int32 → SY → Prop} {i e : Nat} (hw : ∀ j, j < m → w j < 65536) (hm : m ≤ 96) (hie : i < e) (he : e < m) (h1 : ∀ W' : Nat → Int32, (∀ j, j < m - (e - i) → W' j = nI (pm_rp w i e j)) → post 1 (ru, nn, ln, cs, nI (m - (e - i)), ct, lo, T, V, Q, W', M)) : ∀ d k, k + d = m → e + 1 ≤ k → ∀ W' : Nat → Int32, (∀ j, j < k - (e - i) → W' j = nI (pm_rp w i e j)) → (∀ j, k ≤ j → j < m → W' j = nI (w j)) → ∀ f, d < f → wY_replaceOne_32 post (nI i) (nI e) ru nn ln cs (nI m) ct lo f (nI k) T V Q W' M := by
  intro d
  induction d with
  | zero =>
    intro k hk hek W' hA hB f hf
    obtain ⟨f, rfl⟩ : ∃ x, f = x + 1 := ⟨f - 1, by omega⟩
    rw [wY_replaceOne_32]
    refine pk_le m k (fun _ => ?_) (fun z => absurd z (by omega))
    refine nm_r (e' := nI (m - (e - i))) ?_ (h1 W' (fun j hj => hA j (by omega)))
    rw [pk_sub (by omega), nI_add]
    exact congrArg nI (by omega)
  | succ d ih =>
    intro k hk hek W' hA hB f hf
    obtain ⟨f, rfl⟩ : ∃ x, f = x + 1 := ⟨f - 1, by omega⟩
    have ix : nI k - nI e + nI i = nI (k - (e - i)) := by
      rw [pk_sub (by omega), nI_add]
      exact congrArg nI (by omega)
    have hcl : W' (nI k).toNatClampNeg = nI (w k) := by rw [nI_clamp (by omega)]; exact hB k (Nat.le_refl k) (by omega)
    rw [wY_replaceOne_32]
    dsimp only
    rw [ix, hcl, nI_clamp (n := k - (e - i)) (by omega)]
    refine pk_le m k (fun z => absurd z (by omega)) (fun _ => ⟨vp_in_nI (by omega) (by decide), vp_in_nI (by omega) (by decide), ?_⟩)
    refine nm_e (nm_r (nI_1 k) ?_)
    refine ih (k + 1) (by omega) (by omega) _ (fun j hj => ?_) (fun j j1 j2 => ?_) f (by omega)
    · by_cases z : j = k - (e - i)
      · subst z
        rw [pk_us]
        unfold pm_rp
        rw [if_neg (by omega), if_neg (by omega), show k - (e - i) + (e - i) = k by omega]
      · rw [pk_un z]; exact hA j (by omega)
    · rw [pk_un (by omega)]; exact hB j (by omega) j2
theorem pm_yRO2 {post : Int32 → SY → Prop} (hW : ∀ j, j < m → W j = nI (w j)) (hw : ∀ j, w j < 65536) (hm : m ≤ 96) (h1 : ∀ (i e : Nat) (W' : Nat → Int32), pm_PE w m i e → (∀ j, j < m - (e - i) → W' j = nI (pm_rp w i e j)) → post 1 (ru, nn, ln, cs, nI (m - (e - i)), ct, lo, T, V, Q, W', M)) (h0 : (∀ i, i < m → ¬ pm_GD w m i) → post 0 (ru, nn, ln, cs, nI m, ct, lo, T, V, Q, W, M)) : ∀ d i, i + d = m → (∀ j, j < i → ¬ pm_GD w m j) → ∀ f, d < f → wY_replaceOne_2 post ru nn ln cs (nI m) ct lo T V Q W M f (nI i) := by
  intro d
  induction d with
  | zero =>
    intro i hi hg f hf
    obtain ⟨f, rfl⟩ : ∃ x, f = x + 1 := ⟨f - 1, by omega⟩
    rw [wY_replaceOne_2]
    exact pk_le m i (fun _ => h0 (fun j hj => hg j (by omega))) (fun z => absurd z (by omega))
  | succ d ih =>
    intro i hi hg f hf
    obtain ⟨f, rfl⟩ : ∃ x, f = x + 1 := ⟨f - 1, by omega⟩
    rw [wY_replaceOne_2]
    refine pk_le m i (fun z => absurd z (by omega)) (fun _ => ?_)
    refine pm_yPE hW hw hm (by omega) (fun e P => ?_) (fun ng => ?_)
    · have p1 := P.1
      have p2 := P.2.1
      refine br_f (nI_pos (by omega)) ⟨vp_in_nI (by omega) (by decide), ?_⟩
      refine nm_e (nm_r (nI_1 e) ⟨m + 1, ?_⟩)
      rw [nI_clamp (n := i) (by omega)]
      refine pm_yRO32 (fun j _ => hw j) hm (by omega) p2 (fun W' hW' => h1 i e W' P hW') (m - (e + 1)) (e + 1) (by omega) (Nat.le_refl _) _ (fun j hj => ?_) (fun j j1 j2 => ?_) (m + 1) (by omega)
      · by_cases z : j = i
        · subst z
          rw [pk_us]
          unfold pm_rp
          rw [if_neg (by omega), if_pos rfl]
          rfl
        · rw [pk_un z, hW j (by omega)]
          unfold pm_rp
          rw [if_pos (by omega)]
      · rw [pk_un (by omega)]; exact hW j j2
    · refine br_t (by decide) (nm_r (nI_1 i) ?_)
      refine ih (i + 1) (by omega) (fun j hj => ?_) f (by omega)
      rcases Nat.lt_or_ge j i with q | q
      · exact hg j q
      · rw [show j = i by omega]; exact ng
theorem pm_yRO {post : Int32 → SY → Prop} (hW : ∀ j, j < m → W j = nI (w j)) (hw : ∀ j, w j < 65536) (hm : m ≤ 96) (h1 : ∀ (i e : Nat) (W' : Nat → Int32), pm_PE w m i e → (∀ j, j < m - (e - i) → W' j = nI (pm_rp w i e j)) → post 1 (ru, nn, ln, cs, nI (m - (e - i)), ct, lo, T, V, Q, W', M)) (h0 : (∀ i, i < m → ¬ pm_GD w m i) → post 0 (ru, nn, ln, cs, nI m, ct, lo, T, V, Q, W, M)) : wpY_replaceOne post (ru, nn, ln, cs, nI m, ct, lo, T, V, Q, W, M) :=
  ⟨m + 1, pm_yRO2 hW hw hm h1 h0 m 0 (by omega) (fun j hj => absurd hj (Nat.not_lt_zero j)) (m + 1) (by omega)⟩
theorem pm_yS100 {post : Int32 → SY → Prop} (hW : ∀ j, j < m → W j = nI (w j)) (hw : ∀ j, w j < 65536) (hm : m ≤ 96) (h1 : (∀ k, k < m → (w k = 35 ∨ pm_pl (w k))) → post 1 (ru, nn, ln, cs, nI m, ct, lo, T, V, Q, W, M)) (h0 : ¬ (∀ k, k < m → (w k = 35 ∨ pm_pl (w k))) → post 0 (ru, nn, ln, cs, nI m, ct, lo, T, V, Q, W, M)) : ∀ d k, k + d = m → (∀ j, j < k → (w j = 35 ∨ pm_pl (w j))) → ∀ f, d < f → wY_sound_100 post ru nn ln cs (nI m) ct lo T V Q W M f (nI k) := by
  intro d
  induction d with
  | zero =>
    intro k hk hp f hf
    obtain ⟨f, rfl⟩ : ∃ x, f = x + 1 := ⟨f - 1, by omega⟩
    rw [wY_sound_100]
    exact pk_le m k (fun _ => h1 (fun j hj => hp j (by omega))) (fun z => absurd z (by omega))
  | succ d ih =>
    intro k hk hp f hf
    obtain ⟨f, rfl⟩ : ∃ x, f = x + 1 := ⟨f - 1, by omega⟩
    have hin : vp_in (nI k) 96 := vp_in_nI (by omega) (by decide)
    have hcl : W (nI k).toNatClampNeg = nI (w k) := by rw [nI_clamp (by omega)]; exact hW k (by omega)
    have hck := hw k
    have nx : (w k = 35 ∨ pm_pl (w k)) → wY_sound_100 post ru nn ln cs (nI m) ct lo T V Q W M f (nI (k + 1)) := fun c =>
      ih (k + 1) (by omega) (fun j j2 => by
        rcases Nat.lt_or_ge j k with q | q
        · exact hp j q
        · rw [show j = k by omega]; exact c) f (by omega)
    rw [wY_sound_100]
    dsimp only
    rw [hcl]
    refine pk_le m k (fun z => absurd z (by omega)) (fun _ => ⟨hin, ?_⟩)
    refine pm_yPl hck (fun g => ?_) (fun g => ?_)
    · exact br_f (by decide) (nm_r (nI_1 k) (nx (Or.inr g)))
    · refine br_t rfl ⟨hin, ?_⟩
      exact pk_eq (w k) 35 (fun e => nm_r (nI_1 k) (nx (Or.inl e))) (fun e2 => h0 (fun z => (z k (by omega)).elim e2 g))
theorem pm_rp_lt (hw : ∀ j, w j < 65536) (i e j : Nat) : pm_rp w i e j < 65536 := by
  unfold pm_rp
  split
  · exact hw j
  · split
    · omega
    · exact hw _
theorem pm_yS77 {post : Int32 → SY → Prop} (h1 : pm_Acc t n → ∀ (lf : Int32) (W : Nat → Int32), post 1 (ru, nn, ln, cs, lf, ct, lo, T, V, Q, W, M)) (h0 : ¬ pm_Acc t n → ∀ (lf : Int32) (W : Nat → Int32), post 0 (ru, nn, ln, cs, lf, ct, lo, T, V, Q, W, M)) : ∀ d r m : Nat, r + d = 96 → m + 2 * r ≤ 96 → ∀ (w : Nat → Nat) (W : Nat → Int32), (∀ j, j < m → W j = nI (w j)) → (∀ j, w j < 65536) → (pm_Acc w m ↔ pm_Acc t n) → ∀ f, d + 1 < f → wY_sound_77 post f 1 (nI r) ru nn ln cs (nI m) ct lo T V Q W M := by
  have fin : ∀ (m : Nat) (w : Nat → Nat) (W : Nat → Int32), m ≤ 96 → (∀ j, j < m → W j = nI (w j)) → (∀ j, w j < 65536) → (pm_Acc w m ↔ pm_Acc t n) → (∀ i, i < m → ¬ pm_GD w m i) → ∃ n100 : Nat, wY_sound_100 post ru nn ln cs (nI m) ct lo T V Q W M n100 0 := by
    intro m w W hm hW hw hA hG
    refine ⟨m + 1, pm_yS100 hW hw hm (fun hp => h1 (hA.mp (pm_plainA hp)) _ _) (fun hp => h0 (fun A => hp (pm_plain (hA.mpr A) hG)) _ _) m 0 (by omega) (fun j hj => absurd hj (Nat.not_lt_zero j)) (m + 1) (by omega)⟩
  intro d
  induction d with
  | zero => intro r m hr hm; omega
  | succ d ih =>
    intro r m hr hm w W hW hw hA f hf
    obtain ⟨f, rfl⟩ : ∃ x, f = x + 1 := ⟨f - 1, by omega⟩
    rw [wY_sound_77]
    refine pk_le 96 r (fun z => absurd z (by omega)) (fun _ => br_f (by decide) ?_)
    refine pm_yRO hW hw (by omega) (fun i e W' P hW' => ?_) (fun hG => ?_)
    · have p1 := P.1
      have p2 := P.2.1
      refine nm_r (nI_1 r) ?_
      refine ih (r + 1) (m - (e - i)) (by omega) (by omega) (pm_rp w i e) W' hW' (pm_rp_lt hw i e) ?_ f (by omega)
      rw [← hA]
      exact pm_repl P (fun j hj => by unfold pm_rp; rw [if_pos hj]) (by unfold pm_rp; rw [if_neg (by omega), if_pos rfl]) (fun j j1 j2 => by unfold pm_rp; rw [if_neg (by omega), if_neg (by omega)])
    · refine nm_r (nI_1 r) ?_
      obtain ⟨f, rfl⟩ : ∃ x, f = x + 1 := ⟨f - 1, by omega⟩
      rw [wY_sound_77]
      exact br_c (fun _ => fin m w W (by omega) hW hw hA hG) (fun _ => br_t rfl (fin m w W (by omega) hW hw hA hG))
theorem pm_i1 {x : Int32} {z : Int} (h : x.toInt = z) (h1 : -1000 ≤ z) (h2 : z ≤ 1000) : (x + 1).toInt = z + 1 ∧ (x + (-1)).toInt = z - 1 := by
  constructor
  · rw [Int32.toInt_add, h, show (1 : Int32).toInt = 1 from rfl]
    exact Int.bmod_eq_of_le (by omega) (by omega)
  · rw [Int32.toInt_add, h, show (-1 : Int32).toInt = -1 from rfl]
    exact Int.bmod_eq_of_le (by omega) (by omega)
theorem pm_yS4 {post : Int32 → SY → Prop} (hT : ∀ j, T j = nI (t j)) (hc : ∀ j, t j < 65536) (hn : n ≤ 96) (h1 : pm_Snd t n → ∀ (lf : Int32) (W : Nat → Int32), post 1 (ru, nI n, ln, cs, lf, ct, lo, T, V, Q, W, M)) (h0 : ¬ pm_Snd t n → ∀ (lf : Int32) (W : Nat → Int32), post 0 (ru, nI n, ln, cs, lf, ct, lo, T, V, Q, W, M)) : ∀ d p : Nat, p + d = n → ∀ (x : Int32) (W : Nat → Int32), x.toInt = pm_op t p → (∀ k, k ≤ p → pm_op t k ≤ 4) → (∀ j, j < p → W j = nI (t j)) → ∀ f, d < f → wY_sound_4 post ru (nI n) ln cs lf ct lo f x (nI p) T V Q W M := by
  intro d
  induction d with
  | zero =>
    intro p hp x W hx h4 hW f hf
    obtain ⟨f, rfl⟩ : ∃ x, f = x + 1 := ⟨f - 1, by omega⟩
    obtain rfl : p = n := by omega
    rw [wY_sound_4]
    refine pk_le p p (fun _ => ?_) (fun z => absurd z (by omega))
    refine ⟨98, pm_yS77 (t := t) (n := p) (fun A => h1 ⟨h4, A⟩) (fun A => h0 (fun S => A S.2)) 96 0 p (by omega) (by omega) t W hW hc Iff.rfl 98 (by omega)⟩
  | succ d ih =>
    intro p hp x W hx h4 hW f hf
    obtain ⟨f, rfl⟩ : ∃ x, f = x + 1 := ⟨f - 1, by omega⟩
    have hin : vp_in (nI p) 96 := vp_in_nI (by omega) (by decide)
    have hcl : T (nI p).toNatClampNeg = nI (t p) := by rw [nI_clamp (by omega)]; exact hT p
    have bd := pm_cnB 123 125 t (by decide) p
    have c3 := pm_cn3 123 125 t p (by decide)
    have hcp := hc p
    have key : ∀ y : Int32, y.toInt = pm_op t (p + 1) → wY_sound_52 post (wY_sound_4 post ru (nI n) ln cs lf ct lo f) y (nI p) ru (nI n) ln cs lf ct lo T V Q (upd W p (nI (t p))) M := by
      intro y hy
      unfold wY_sound_52
      refine br_c (fun g => nm_r (nI_1 p) ?_) (fun g => h0 (fun S => g ?_) _ _)
      · have g' : pm_op t (p + 1) ≤ 4 := by
          rw [Int32.le_iff_toInt_le, hy, show (4 : Int32).toInt = 4 from rfl] at g
          exact g
        refine ih (p + 1) (by omega) y _ hy (fun k hk => ?_) (fun j hj => ?_) f (by omega)
        · rcases Nat.lt_or_ge k (p + 1) with q | q
          · exact h4 k (by omega)
          · rw [show k = p + 1 by omega]; exact g'
        · by_cases z : j = p
          · subst z; rw [pk_us]
          · rw [pk_un z]; exact hW j (by omega)
      · rw [Int32.le_iff_toInt_le, hy, show (4 : Int32).toInt = 4 from rfl]
        exact S.1 (p + 1) (by omega)
    have e1 := pm_i1 hx (by unfold pm_op; omega) (by unfold pm_op; omega)
    rw [wY_sound_4]
    dsimp only
    rw [hcl, nI_clamp (n := p) (by omega)]
    refine pk_le n p (fun z => absurd z (by omega)) (fun _ => ⟨hin, hin, nm_e ⟨hin, ?_⟩⟩)
    refine pk_eq (t p) 123 (fun e => nm_e ?_) (fun e => ?_)
    · unfold wY_sound_38
      rw [hcl]
      refine ⟨hin, br_f (fun z => ?_) (key _ ?_)⟩
      · have : t p = 125 := (nI_eq (b := 125) (by omega) (by decide)).mp z
        omega
      · rw [e1.1]; unfold pm_op; rw [c3.1 e]
    · unfold wY_sound_38
      rw [hcl]
      refine ⟨hin, pk_eq (t p) 125 (fun g => nm_e (key _ ?_)) (fun g => key _ ?_)⟩
      · rw [e1.2]; unfold pm_op; rw [c3.2.1 g]
      · rw [hx]; unfold pm_op; rw [c3.2.2 e g]
theorem pm_ySound {post : Int32 → SY → Prop} (hT : ∀ j, T j = nI (t j)) (hc : ∀ j, t j < 65536) (hn : n ≤ 96) (h1 : pm_Snd t n → ∀ (lf : Int32) (W : Nat → Int32), post 1 (ru, nI n, ln, cs, lf, ct, lo, T, V, Q, W, M)) (h0 : ¬ pm_Snd t n → ∀ (lf : Int32) (W : Nat → Int32), post 0 (ru, nI n, ln, cs, lf, ct, lo, T, V, Q, W, M)) : wpY_sound post (ru, nI n, ln, cs, lf, ct, lo, T, V, Q, W, M) :=
  ⟨n + 1, pm_yS4 hT hc hn h1 h0 n 0 (by omega) 0 W rfl (fun k hk => by rw [show k = 0 by omega]; exact (by decide : (0 : Int) ≤ 4)) (fun j hj => absurd hj (Nat.not_lt_zero j)) (n + 1) (by omega)⟩
end
end
section
/-! one character, one number, on both sides -/
theorem pm_nar {c : Nat} (hc : c < 65536) : vp_nar .char (((nI c).toUInt32 % 65536).toInt32) = nI c := by
  rw [pk_vc, pk_char, pk_tn (by omega), Nat.mod_eq_of_lt hc]
theorem pm_dig (m k : Nat) (hm : m ≤ 2147483648) (hk : k ≤ 9) : 48 + (lN m / lN (10 ^ k) - lN m / lN (10 ^ k) / 10 * 10).toInt32 = nI (48 + m / 10 ^ k % 10) ∧ (lN m / lN (10 ^ k) - lN m / lN (10 ^ k) / 10 * 10).toInt32 = nI (m / 10 ^ k % 10) := by
  have p := pm_p10 k hk
  have q : m / 10 ^ k ≤ m := Nat.div_le_self _ _
  have e : lN m / lN (10 ^ k) - lN m / lN (10 ^ k) / 10 * 10 = lN (m / 10 ^ k % 10) := by
    rw [pk_lDiv (by omega) (by omega) (by omega)]
    exact pk_lRem (b := 10) (by omega) (by decide) (by decide)
  rw [e, lN_i]
  exact ⟨nI_add 48 _, rfl⟩
section
variable {rs ty wr lb lv lk : Int32} {T V O H R : Nat → Int32}
theorem pm_xPut {post : SX → Prop} {w c : Nat} (hw : w < 65536) (hc : c < 65536) (h : post (rs, ty, nI (w + 1), lb, lv, lk, T, V, pm_pt O w c, H, R)) : wpX_write post (rs, ty, nI w, lb, lv, lk, T, V, O, H, R) (nI c) := by
  unfold wpX_write
  refine pk_lt w 0 (fun z => absurd z (by omega)) (fun _ => pk_le 120 w (fun g => nm_r (nI_1 w) ?_) (fun g => ⟨vp_in_nI g (by decide), nm_r (e' := pm_pt O w c) ?_ (nm_r (nI_1 w) h)⟩))
  · rw [pm_pt, if_neg (by omega)] at h; exact h
  · rw [pm_pt, if_pos g, nI_clamp (by omega), pm_nar hc]
theorem pm_xWV52 {post : SX → Prop} {m : Nat} (hm : m ≤ 2147483648) : ∀ (k w : Nat) (O : Nat → Int32), k ≤ 10 → w + k < 65536 → post (rs, ty, nI (w + (pm_dl m k).length), lb, lv, lk, T, V, pm_ps (pm_dl m k) O w, H, R) → ∀ f, k < f → wX_writeValue_52 post (lN m) f (lN (pm_un k)) rs ty (nI w) lb lv lk T V O H R := by
  intro k
  induction k with
  | zero =>
    intro w O hk hw h f hf
    obtain ⟨f, rfl⟩ : ∃ x, f = x + 1 := ⟨f - 1, by omega⟩
    rw [wX_writeValue_52]
    exact br_t (by decide) h
  | succ k ih =>
    intro w O hk hw h f hf
    obtain ⟨f, rfl⟩ : ∃ x, f = x + 1 := ⟨f - 1, by omega⟩
    have p := pm_p10 k (by omega)
    have ul : pm_un (k + 1) = 10 ^ k := rfl
    have dv : lN (pm_un (k + 1)) / 10 = lN (pm_un k) := by
      rw [← pm_un_div k]
      exact pk_lDiv (b := 10) (by omega) (by decide) (by decide)
    have put : (k = 0 ∨ 10 ^ k ≤ m) → wX_writeValue_73 post (wX_writeValue_52 post (lN m) f) (lN m) (lN (pm_un (k + 1))) rs ty (nI w) lb lv lk T V O H R := by
      intro c
      have ed : pm_dl m (k + 1) = (48 + m / 10 ^ k % 10) :: pm_dl m k := by rw [pm_dl, if_pos c]; rfl
      rw [ed] at h
      unfold wX_writeValue_73
      refine ⟨?_, by decide, ?_⟩
      · exact fun z => absurd ((pk_lEQ (b := 0) (by omega) (by decide)).mp z) (by omega)
      · rw [ul, (pm_dig m k hm (by omega)).1, ← ul]
        refine pm_xPut (by omega) (by omega) ⟨by decide, nm_r dv ?_⟩
        refine ih (w + 1) _ (by omega) (by omega) ?_ f (by omega)
        rw [List.length_cons, show w + ((pm_dl m k).length + 1) = w + 1 + (pm_dl m k).length by omega] at h
        exact h
    rw [wX_writeValue_52]
    refine br_f ?_ (br_c (fun e => put (Or.inl ?_)) (fun e => br_c (fun g => ⟨by decide, nm_r dv ?_⟩) (fun g => put (Or.inr ?_))))
    · exact fun z => absurd ((pk_lLT (b := 1) (by omega) (by decide)).mp z) (by omega)
    · exact (pm_un1 k).mp ((pk_lEQ (b := 1) (by omega) (by decide)).mp e)
    · have g' := (pk_lLT (by omega) (by omega)).mp g
      have c : ¬ (k = 0 ∨ 10 ^ k ≤ m) := by
        intro z
        rcases z with z | z
        · exact e (by rw [(pm_un1 k).mpr z]; rfl)
        · omega
      have ed : pm_dl m (k + 1) = pm_dl m k := by rw [pm_dl, if_neg c]; rfl
      rw [ed] at h
      exact ih w O (by omega) (by omega) h f (by omega)
    · have g' : ¬ m < 10 ^ k := fun z => g ((pk_lLT (by omega) (by omega)).mpr z)
      omega
theorem pm_xWS {post : Int64 → Prop} {v : Int32} (h : post (lN v.toInt.natAbs)) : wpX_withoutSign post v := by
  unfold wpX_withoutSign
  have e : (0 : Int64) ≤ v.toInt64 ↔ ¬ v < 0 := by rw [← pm_lltZ, Int64.not_lt]
  refine br_c (fun g => ?_) (fun g => ?_)
  · rw [pm_absP v (e.mp g)]; exact h
  · have : v < 0 := Decidable.of_not_not (fun z => g (e.mpr z))
    rw [pm_absM v this]; exact h
theorem pm_xWV {post : SX → Prop} {w a : Nat} (ha : a < 4) (hw : w < 60000) (h : post (rs, ty, nI (w + (pm_nl (V a)).length), lb, lv, lk ||| ((1 : Int32) <<< (nI a &&& 31)), T, V, pm_ps (pm_nl (V a)) O w, H, R)) : wpX_writeValue post (rs, ty, nI w, lb, lv, lk, T, V, O, H, R) (nI a) := by
  have b := pm_absB (V a)
  have hin : vp_in (nI a) 4 := vp_in_nI ha (by decide)
  have hcl : (nI a).toNatClampNeg = a := nI_clamp (by omega)
  unfold wpX_writeValue
  dsimp only
  rw [hcl]
  refine pk_lt a 0 (fun z => absurd z (by omega)) (fun _ => pk_lt a 4 (fun _ => nm_e ⟨hin, ?_⟩) (fun z => absurd z (by omega)))
  refine pm_xWS ⟨hin, ?_⟩
  have u10 : (1000000000 : Int64) = lN (pm_un 10) := rfl
  refine br_c (fun g => ⟨11, ?_⟩) (fun g => ?_)
  · have n : ¬ V a < 0 := Int32.not_lt.mpr g
    have e : pm_nl (V a) = pm_dl (V a).toInt.natAbs 10 := by unfold pm_nl; rw [if_neg n]; rfl
    rw [e] at h
    rw [u10]
    exact pm_xWV52 b 10 w O (by omega) (by omega) h 11 (by omega)
  · have n : V a < 0 := Int32.not_le.mp g
    have e : pm_nl (V a) = 45 :: pm_dl (V a).toInt.natAbs 10 := by unfold pm_nl; rw [if_pos n]; rfl
    rw [e, List.length_cons] at h
    refine pm_xPut (c := 45) (by omega) (by decide) ⟨11, ?_⟩
    rw [u10]
    refine pm_xWV52 b 10 (w + 1) _ (by omega) (by omega) ?_ 11 (by omega)
    rw [show w + 1 + (pm_dl (V a).toInt.natAbs 10).length = w + ((pm_dl (V a).toInt.natAbs 10).length + 1) by omega]
    exact h
end
section
variable {ru nn ln cs lf ct lo : Int32} {T V Q W M : Nat → Int32}
theorem pm_yPut {post : SY → Prop} {w c : Nat} (hw : w < 65536) (h : post (ru, nn, ln, cs, lf, nI (w + 1), lo, T, V, Q, W, pm_pt M w c)) : wpY_put post (ru, nn, ln, cs, lf, nI w, lo, T, V, Q, W, M) (nI c) := by
  unfold wpY_put
  refine pk_le 120 w (fun g => nm_r (nI_1 w) ?_) (fun g => ⟨vp_in_nI g (by decide), nm_r (e' := pm_pt M w c) ?_ (nm_r (nI_1 w) h)⟩)
  · rw [pm_pt, if_neg (by omega)] at h; exact h
  · rw [pm_pt, if_pos g, nI_clamp (by omega)]
theorem pm_yPN34 {post : SY → Prop} {m : Nat} (hm : m ≤ 2147483648) : ∀ (k w : Nat) (M : Nat → Int32) (b : Int32), k ≤ 10 → w + k < 65536 → (1 ≤ k → (b ≠ 0 ↔ 10 ^ k ≤ m)) → post (ru, nn, ln, cs, lf, nI (w + (pm_dl m k).length), lo, T, V, Q, W, pm_ps (pm_dl m k) M w) → ∀ f, k < f → wY_putNumber_34 post (lN m) f (lN (pm_sc k)) b (nI (10 - k)) ru nn ln cs lf (nI w) lo T V Q W M := by
  intro k
  induction k with
  | zero =>
    intro w M b hk hw hb h f hf
    obtain ⟨f, rfl⟩ : ∃ x, f = x + 1 := ⟨f - 1, by omega⟩
    rw [wY_putNumber_34]
    exact br_t (by decide) h
  | succ k ih =>
    intro w M b hk hw hb h f hf
    obtain ⟨f, rfl⟩ : ∃ x, f = x + 1 := ⟨f - 1, by omega⟩
    have p := pm_p10 k (by omega)
    have ul : pm_sc (k + 1) = 10 ^ k := rfl
    have kk : nI (10 - (k + 1)) + 1 = nI (10 - k) := by rw [nI_1]; exact congrArg nI (by omega)
    have bg := pm_begun m k
    have hb := hb (by omega)
    have nx : ∀ (w' : Nat) (M' : Nat → Int32) (b' : Int32), w' + k < 65536 → (b' ≠ 0 ↔ (k = 0 ∨ 10 ^ k ≤ m)) → post (ru, nn, ln, cs, lf, nI (w' + (pm_dl m k).length), lo, T, V, Q, W, pm_ps (pm_dl m k) M' w') → wY_putNumber_81 post (wY_putNumber_34 post (lN m) f) (lN m) (lN (pm_sc (k + 1))) b' (nI (10 - (k + 1))) ru nn ln cs lf (nI w') lo T V Q W M' := by
      intro w' M' b' hw' hb' h'
      unfold wY_putNumber_81
      cases k with
      | zero =>
        refine br_t rfl (nm_r kk ?_)
        exact ih w' M' b' (by omega) (by omega) (fun z => absurd z (by omega)) h' f (by omega)
      | succ k =>
        refine br_f ?_ ⟨by decide, nm_r (e' := lN (pm_sc (k + 1))) ?_ (nm_r kk ?_)⟩
        · intro z
          have z' := (pk_lEQ (b := 1) (by omega) (by decide)).mp z
          have := (pm_un1 (k + 1)).mp z'
          omega
        · rw [show pm_sc (k + 1) = pm_un (k + 1) from rfl, ← pm_un_div (k + 1)]
          exact pk_lDiv (b := 10) (by omega) (by decide) (by decide)
        · refine ih w' M' b' (by omega) (by omega) (fun _ => ?_) h' f (by omega)
          rw [hb']
          exact ⟨fun z => z.elim (fun q => absurd q (by omega)) (fun q => q), Or.inr⟩
    have put : ∀ b' : Int32, b' ≠ 0 → (k = 0 ∨ 10 ^ k ≤ m) → wY_putNumber_67 post (wY_putNumber_34 post (lN m) f) (lN m) (lN (pm_sc (k + 1))) b' (nI (10 - (k + 1))) (nI (m / 10 ^ k % 10)) ru nn ln cs lf (nI w) lo T V Q W M := by
      intro b' hb' c
      have ed : pm_dl m (k + 1) = (48 + m / 10 ^ k % 10) :: pm_dl m k := by rw [pm_dl, if_pos c]; rfl
      rw [ed, List.length_cons, show w + ((pm_dl m k).length + 1) = w + 1 + (pm_dl m k).length by omega] at h
      unfold wY_putNumber_67
      refine br_f hb' ?_
      rw [show (48 : Int32) + nI (m / 10 ^ k % 10) = nI (48 + m / 10 ^ k % 10) from nI_add 48 _]
      exact pm_yPut (by omega) (nx (w + 1) _ b' (by omega) ⟨fun _ => c, fun _ => hb'⟩ h)
    rw [wY_putNumber_34]
    refine pk_le 10 (10 - (k + 1)) (fun z => absurd z (by omega)) (fun _ => ⟨?_, by decide, nm_r (e' := nI (m / 10 ^ k % 10)) (pm_dig m k hm (by omega)).2 ?_⟩)
    · exact fun z => absurd ((pk_lEQ (b := 0) (by omega) (by decide)).mp z) (by omega)
    · refine pk_lt 0 (m / 10 ^ k % 10) (fun g => ?_) (fun g => br_c (fun e => ?_) (fun e => ?_))
      · unfold wY_putNumber_64
        exact put 1 (by decide) (Or.inr (bg.mpr (Or.inr g)))
      · unfold wY_putNumber_64
        have e2 : pm_sc (k + 1) = 1 := (pk_lEQ (b := 1) (by omega) (by decide)).mp e
        exact put 1 (by decide) (Or.inl ((pm_un1 k).mp e2))
      · have k0 : k ≠ 0 := fun z => e (by subst z; rfl)
        by_cases c : b = 0
        · have c' : ¬ (k = 0 ∨ 10 ^ k ≤ m) := by
            intro z
            have := z.resolve_left k0
            have := (bg.mp this).resolve_right (by omega)
            exact hb.mpr this c
          have ed : pm_dl m (k + 1) = pm_dl m k := by rw [pm_dl, if_neg c']; rfl
          rw [ed] at h
          unfold wY_putNumber_67
          exact br_t c (nx w M b (by omega) ⟨fun z => absurd c z, fun z => absurd z c'⟩ h)
        · exact put b c (Or.inr (bg.mpr (Or.inl (hb.mp c))))
theorem pm_yPN {post : SY → Prop} {w : Nat} {v : Int32} (hw : w < 60000) (h : post (ru, nn, ln, cs, lf, nI (w + (pm_nl v).length), lo, T, V, Q, W, pm_ps (pm_nl v) M w)) : wpY_putNumber post (ru, nn, ln, cs, lf, nI w, lo, T, V, Q, W, M) v := by
  have b := pm_absB v
  have u10 : (1000000000 : Int64) = lN (pm_sc 10) := rfl
  have big : ¬ 10 ^ 10 ≤ v.toInt.natAbs := by omega
  unfold wpY_putNumber
  refine br_c (fun g => ?_) (fun g => ?_)
  · have n : ¬ v < 0 := Int32.not_lt.mpr g
    have e : pm_nl v = pm_dl v.toInt.natAbs 10 := by unfold pm_nl; rw [if_neg n]; rfl
    rw [e] at h
    unfold wY_putNumber_12
    rw [pm_absP v n, u10]
    exact br_t g ⟨11, pm_yPN34 b 10 w M 0 (by omega) (by omega) (fun _ => ⟨fun z => absurd rfl z, fun z => absurd z big⟩) h 11 (by omega)⟩
  · have n : v < 0 := Int32.not_le.mp g
    have e : pm_nl v = 45 :: pm_dl v.toInt.natAbs 10 := by unfold pm_nl; rw [if_pos n]; rfl
    rw [e, List.length_cons, show w + ((pm_dl v.toInt.natAbs 10).length + 1) = w + 1 + (pm_dl v.toInt.natAbs 10).length by omega] at h
    unfold wY_putNumber_12
    rw [pm_absM v n, u10]
    refine br_f g ?_
    refine pm_yPut (c := 45) (by omega) ⟨11, ?_⟩
    exact pm_yPN34 b 10 (w + 1) _ 0 (by omega) (by omega) (fun _ => ⟨fun z => absurd rfl z, fun z => absurd z big⟩) h 11 (by omega)
end
end
section
/-! letters, places of the text, matching closers, the choice around -/
def pm_sL (v : Int32) : Int32 := if v < 0 then 120 else if 22 < v then 120 else 97 + v
def pm_lt (r c : Nat) (v : Int32) : Int32 := if c = 63 then nI (pm_pL r v.toInt.natAbs) else pm_sL v
section
variable {rs ty wr lb lv lk : Int32} {T V O H R : Nat → Int32} {t : Nat → Nat} {n : Nat}
theorem pm_xSel {post : Int32 → Prop} {v : Int32} (h : post (pm_sL v)) : wpX_selectLetter post v := by
  unfold wpX_selectLetter
  unfold pm_sL at h
  refine br_c (fun a => ?_) (fun a => br_c (fun b => ?_) (fun b => ?_))
  · rw [if_pos a] at h; exact h
  · rw [if_neg a, if_pos b] at h; exact h
  · rw [if_neg a, if_neg b] at h; exact h
theorem pm_xLE {post : Int32 → Prop} {m : Nat} (h : ∀ r, r = pm_pL 1 m → post (nI r)) : wpX_letterByEnding post (nI (m % 100)) := by
  have e10 : nI (m % 100) - nI (m % 100) / 10 * 10 = nI (m % 100 % 10) := pk_rem (d := 10) (by omega) (by decide) (by decide)
  have d31 : ∀ z : Int32, (z = 0 ∧ (m % 100 - m % 100 % 10 ≠ 10)) ∨ (z = 1 ∧ (m % 100 - m % 100 % 10 = 10)) → wX_letterByEnding_18 post (nI (m % 100 % 10)) z := by
    intro z hz
    have t31 : ¬ (m % 10 = 1 ∧ m % 100 ≠ 11) → wX_letterByEnding_31 post (nI (m % 100 % 10)) z := by
      intro hn
      unfold wX_letterByEnding_31
      refine pk_lt (m % 100 % 10) 2 (fun g => h 109 ?_) (fun g => pk_lt 4 (m % 100 % 10) (fun g' => h 109 ?_) (fun g' => ?_))
      · unfold pm_pL; rw [if_neg (by omega), if_pos rfl, if_neg hn, if_neg (by omega)]
      · unfold pm_pL; rw [if_neg (by omega), if_pos rfl, if_neg hn, if_neg (by omega)]
      · rcases hz with ⟨rfl, hz⟩ | ⟨rfl, hz⟩
        · refine br_t rfl (h 102 ?_)
          unfold pm_pL; rw [if_neg (by omega), if_pos rfl, if_neg hn, if_pos (by omega)]
        · refine br_f (by decide) (h 109 ?_)
          unfold pm_pL; rw [if_neg (by omega), if_pos rfl, if_neg hn, if_neg (by omega)]
    unfold wX_letterByEnding_18
    refine pk_eq (m % 100 % 10) 1 (fun g => ?_) (fun g => t31 (by omega))
    rcases hz with ⟨rfl, hz⟩ | ⟨rfl, hz⟩
    · refine br_t rfl (h 111 ?_)
      unfold pm_pL; rw [if_neg (by omega), if_pos rfl, if_pos (by omega)]
    · exact br_f (by decide) (t31 (by omega))
  unfold wpX_letterByEnding
  refine ⟨by decide, nm_r e10 ?_⟩
  rw [pk_sub (by omega)]
  exact pk_eq (m % 100 - m % 100 % 10) 10 (fun g => d31 1 (Or.inr ⟨rfl, g⟩)) (fun g => d31 0 (Or.inl ⟨rfl, g⟩))
theorem pm_xLR {post : Int32 → Prop} {m : Nat} (hm : m ≤ 2147483648) (h : ∀ r, r = pm_pL 2 m → post (nI r)) : wpX_letterByRange post (lN m) (nI (m % 100)) := by
  have t43 : m ≠ 0 → m ≠ 1 → m ≠ 2 → ¬ (3 ≤ m % 100 ∧ m % 100 ≤ 10) → wX_letterByRange_43 post (nI (m % 100)) := by
    intro h0 h1 h2 h3
    unfold wX_letterByRange_43
    refine pk_lt (m % 100) 11 (fun g => h 120 ?_) (fun g => h 109 ?_)
    · unfold pm_pL; rw [if_neg (by omega), if_neg (by omega), if_neg h0, if_neg h1, if_neg h2, if_neg h3, if_neg (by omega)]
    · unfold pm_pL; rw [if_neg (by omega), if_neg (by omega), if_neg h0, if_neg h1, if_neg h2, if_neg h3, if_pos (by omega)]
  unfold wpX_letterByRange
  refine br_c (fun g => h 122 ?_) (fun g0 => br_c (fun g => h 111 ?_) (fun g1 => br_c (fun g => h 116 ?_) (fun g2 => ?_)))
  · have := (pk_lEQ (b := 0) (by omega) (by decide)).mp g
    subst this; rfl
  · have := (pk_lEQ (b := 1) (by omega) (by decide)).mp g
    subst this; rfl
  · have := (pk_lEQ (b := 2) (by omega) (by decide)).mp g
    subst this; rfl
  · have n0 : m ≠ 0 := fun z => g0 (by subst z; rfl)
    have n1 : m ≠ 1 := fun z => g1 (by subst z; rfl)
    have n2 : m ≠ 2 := fun z => g2 (by subst z; rfl)
    refine pk_lt (m % 100) 3 (fun g => t43 n0 n1 n2 (by omega)) (fun g => pk_lt 10 (m % 100) (fun g' => t43 n0 n1 n2 (by omega)) (fun g' => h 102 ?_))
    unfold pm_pL; rw [if_neg (by omega), if_neg (by omega), if_neg n0, if_neg n1, if_neg n2, if_pos (by omega)]
theorem pm_l100 {m : Nat} (hm : m ≤ 2147483648) : (lN m - lN m / 100 * 100).toInt32 = nI (m % 100) ∧ (lN m - lN m / 10 * 10).toInt32 = nI (m % 10) := by
  constructor
  · rw [show lN m - lN m / 100 * 100 = lN (m % 100) from pk_lRem (b := 100) (by omega) (by decide) (by decide), lN_i]
  · rw [show lN m - lN m / 10 * 10 = lN (m % 10) from pk_lRem (b := 10) (by omega) (by decide) (by decide), lN_i]
theorem pm_xPL {post : Int32 → Prop} {v : Int32} {r : Nat} (hr : r ≤ 2) (h : post (nI (pm_pL r v.toInt.natAbs))) : wpX_pluralLetter post (nI r, ty, wr, lb, lv, lk, T, V, O, H, R) v := by
  have b := pm_absB v
  unfold wpX_pluralLetter
  refine pm_xWS ?_
  revert b h
  generalize v.toInt.natAbs = m
  intro b h
  refine pk_eq r 0 (fun e => ?_) (fun e => ⟨by decide, nm_r (pm_l100 h).1 ?_⟩)
  · subst e
    refine br_c (fun g => ?_) (fun g => ?_)
    · have e : m = 1 := (pk_lEQ (b := 1) (by omega) (by decide)).mp g
      rw [pm_pL, if_pos rfl, if_pos e] at b; exact b
    · have e : ¬ m = 1 := fun z => g (by subst z; rfl)
      rw [pm_pL, if_pos rfl, if_neg e] at b; exact b
  · refine pk_eq r 1 (fun e1 => ?_) (fun e1 => ?_)
    · subst e1; exact pm_xLE (fun s hs => by subst hs; exact b)
    · obtain rfl : r = 2 := by omega
      exact pm_xLR h (fun s hs => by subst hs; exact b)
theorem pm_xTA {post : Int32 → Prop} {p : Nat} (hT : ∀ j, T j = nI (t j)) (hn : n ≤ 96) (hp : p < n) (h : post (nI (t p))) : wpX_templateAt post (rs, nI n, wr, lb, lv, lk, T, V, O, H, R) (nI p) := by
  unfold wpX_templateAt
  refine pk_lt p 0 (fun z => absurd z (by omega)) (fun _ => pk_le n p (fun z => absurd z (by omega)) (fun _ => ⟨vp_in_nI (by omega) (by decide), ?_⟩))
  rw [nI_clamp (by omega), hT]; exact h
theorem pm_xAA {post : Int32 → Prop} {p : Nat} (hT : ∀ j, T j = nI (t j)) (hn : n ≤ 96) (hp : p < n) (h1 : 48 ≤ t p) (h2 : t p ≤ 51) (h : post (nI (t p - 48))) : wpX_argumentAt post (rs, nI n, wr, lb, lv, lk, T, V, O, H, R) (nI p) := by
  unfold wpX_argumentAt
  refine pm_xTA hT hn hp ?_
  rw [pk_andN (by omega) 2 (by decide), show t p % 2 ^ 2 = t p - 48 by omega]
  exact h
/-- what a found closer is -/
def pm_Mt (a b : Nat) (t : Nat → Nat) (n s f : Nat) : Prop := s < f ∧ f < n ∧ pm_cn a b t (f + 1) = pm_cn a b t s ∧ t s = a ∧ ∀ j, s < j → j ≤ f → pm_cn a b t s + 1 ≤ pm_cn a b t j
theorem pm_xAM6 {post : Int32 → Prop} {a b s f : Nat} (hab : a ≠ b) (ha : a < 65536) (hb : b < 65536) (hT : ∀ j, T j = nI (t j)) (hc : ∀ j, t j < 65536) (hn : n ≤ 96) (M : pm_Mt a b t n s f) (h : post (nI (f + 1))) : ∀ d k o : Nat, k + d = f → s ≤ k → pm_cn a b t k = pm_cn a b t s + o → ∀ m, d < m → wX_afterMatch_6 post (nI a) (nI b) rs (nI n) wr lb lv lk T V O H R m (nI o) (nI k) := by
  obtain ⟨m1, m2, m3, m4, m5⟩ := M
  intro d
  induction d with
  | zero =>
    intro k o hk hs ho m hm
    obtain ⟨m, rfl⟩ : ∃ x, m = x + 1 := ⟨m - 1, by omega⟩
    obtain rfl : k = f := by omega
    have c3 := pm_cn3 a b t k hab
    have g5 := m5 k m1 (Nat.le_refl k)
    have hck := hc k
    have c1 : pm_cn a b t (k + 1) = pm_cn a b t k - 1 ∧ t k = b ∧ o = 1 := by
      have c1 := pm_cn1 a b t k hab
      by_cases z : t k = b
      · have := c3.2.1 z; omega
      · by_cases y : t k = a
        · have := c3.1 y; omega
        · have := c3.2.2 y z; omega
    have hin : vp_in (nI k) 96 := vp_in_nI (by omega) (by decide)
    have hcl : T (nI k).toNatClampNeg = nI (t k) := by rw [nI_clamp (by omega)]; exact hT k
    rw [wX_afterMatch_6]
    dsimp only
    rw [hcl]
    refine pk_lt k 0 (fun z => absurd z (by omega)) (fun _ => pk_le n k (fun z => absurd z (by omega)) (fun _ => ⟨hin, ?_⟩))
    refine pk_eq (t k) a (fun z => absurd z (by omega)) (fun _ => ⟨hin, pk_eq (t k) b (fun _ => nm_r (e' := nI 0) ?_ ?_) (fun z => absurd c1.2.1 z)⟩)
    · rw [c1.2.2]; exact pk_m1 0
    · unfold wX_afterMatch_51
      exact br_t rfl (by rw [nI_1 k]; exact h)
  | succ d ih =>
    intro k o hk hs ho m hm
    obtain ⟨m, rfl⟩ : ∃ x, m = x + 1 := ⟨m - 1, by omega⟩
    have c3 := pm_cn3 a b t k hab
    have g5 := m5 (k + 1) (by omega) (by omega)
    have bd := pm_cnB a b t hab (k + 1)
    have bs := pm_cnB a b t hab s
    have hck := hc k
    have hin : vp_in (nI k) 96 := vp_in_nI (by omega) (by decide)
    have hcl : T (nI k).toNatClampNeg = nI (t k) := by rw [nI_clamp (by omega)]; exact hT k
    have nx : ∀ o' : Nat, pm_cn a b t (k + 1) = pm_cn a b t s + o' → wX_afterMatch_51 post (wX_afterMatch_6 post (nI a) (nI b) rs (nI n) wr lb lv lk T V O H R m) (nI a) (nI b) (nI o') (nI k) rs (nI n) wr lb lv lk T V O H R := by
      intro o' ho'
      unfold wX_afterMatch_51
      refine pk_eq o' 0 (fun z => absurd z (by omega)) (fun _ => nm_r (nI_1 k) ?_)
      exact ih (k + 1) o' (by omega) (by omega) ho' m (by omega)
    rw [wX_afterMatch_6]
    dsimp only
    rw [hcl]
    refine pk_lt k 0 (fun z => absurd z (by omega)) (fun _ => pk_le n k (fun z => absurd z (by omega)) (fun _ => ⟨hin, ?_⟩))
    refine pk_eq (t k) a (fun z => nm_r (nI_1 o) (nx (o + 1) ?_)) (fun z => ⟨hin, pk_eq (t k) b (fun y => nm_r (e' := nI (o - 1)) ?_ (nx (o - 1) ?_)) (fun y => nx o ?_)⟩)
    · have := c3.1 z; omega
    · have := c3.2.1 y
      obtain ⟨o', rfl⟩ : ∃ x, o = x + 1 := ⟨o - 1, by omega⟩
      exact pk_m1 o'
    · have := c3.2.1 y; omega
    · have := c3.2.2 z y; omega
theorem pm_xAM {post : Int32 → Prop} {a b s f : Nat} (hab : a ≠ b) (ha : a < 65536) (hb : b < 65536) (hT : ∀ j, T j = nI (t j)) (hc : ∀ j, t j < 65536) (hn : n ≤ 96) (M : pm_Mt a b t n s f) (h : post (nI (f + 1))) : wpX_afterMatch post (rs, nI n, wr, lb, lv, lk, T, V, O, H, R) (nI s) (nI a) (nI b) :=
  ⟨f - s + 1, pm_xAM6 hab ha hb hT hc hn M h (f - s) s 0 (by have := M.1; omega) (Nat.le_refl s) (by omega) (f - s + 1) (by omega)⟩
end
section
variable {ru nn ln cs lf ct lo : Int32} {T V Q W M : Nat → Int32} {t : Nat → Nat} {n : Nat}
theorem pm_yPL12 {post : Int32 → Prop} {m r : Nat} (hr : r ≤ 2) (hm : m ≤ 2147483648) (h : ∀ s, s = pm_pL r m → post (nI s)) : wY_pluralLetter_12 post (lN m) (nI r) nn ln cs lf ct lo T V Q W M := by
  unfold wY_pluralLetter_12
  refine ⟨by decide, nm_r (pm_l100 hm).2 ⟨by decide, nm_r (pm_l100 hm).1 ?_⟩⟩
  refine pk_eq r 0 (fun e => ?_) (fun e0 => pk_eq r 1 (fun e => ?_) (fun e1 => ?_))
  · subst e
    refine br_c (fun g => h 111 ?_) (fun g => h 120 ?_)
    · have e : m = 1 := (pk_lEQ (b := 1) (by omega) (by decide)).mp g
      rw [pm_pL, if_pos rfl, if_pos e]
    · have e : ¬ m = 1 := fun z => g (by subst z; rfl)
      rw [pm_pL, if_pos rfl, if_neg e]
  · subst e
    have t74 : ¬ (m % 10 = 1 ∧ m % 100 ≠ 11) → wY_pluralLetter_74 post (nI (m % 10)) (nI (m % 100)) (nI 1) nn ln cs lf ct lo T V Q W M := by
      intro hn
      unfold wY_pluralLetter_74
      refine pk_lt (m % 10) 2 (fun g => h 109 ?_) (fun g => pk_lt 4 (m % 10) (fun g' => h 109 ?_) (fun g' => pk_lt (m % 100) 12 (fun k => h 102 ?_) (fun k => pk_le (m % 100) 14 (fun k' => h 109 ?_) (fun k' => h 102 ?_))))
      · unfold pm_pL; rw [if_neg (by omega), if_pos rfl, if_neg hn, if_neg (by omega)]
      · unfold pm_pL; rw [if_neg (by omega), if_pos rfl, if_neg hn, if_neg (by omega)]
      · unfold pm_pL; rw [if_neg (by omega), if_pos rfl, if_neg hn, if_pos (by omega)]
      · unfold pm_pL; rw [if_neg (by omega), if_pos rfl, if_neg hn, if_neg (by omega)]
      · unfold pm_pL; rw [if_neg (by omega), if_pos rfl, if_neg hn, if_pos (by omega)]
    refine pk_eq (m % 10) 1 (fun g => pk_eq (m % 100) 11 (fun g' => t74 (by omega)) (fun g' => h 111 ?_)) (fun g => t74 (by omega))
    unfold pm_pL; rw [if_neg (by omega), if_pos rfl, if_pos ⟨g, g'⟩]
  · obtain rfl : r = 2 := by omega
    have t159 : m ≠ 0 → m ≠ 1 → m ≠ 2 → ¬ (3 ≤ m % 100 ∧ m % 100 ≤ 10) → wY_pluralLetter_159 post (nI (m % 100)) (nI 2) nn ln cs lf ct lo T V Q W M := by
      intro h0 h1 h2 h3
      unfold wY_pluralLetter_159
      refine pk_lt (m % 100) 11 (fun g => h 120 ?_) (fun g => h 109 ?_)
      · unfold pm_pL; rw [if_neg (by omega), if_neg (by omega), if_neg h0, if_neg h1, if_neg h2, if_neg h3, if_neg (by omega)]
      · unfold pm_pL; rw [if_neg (by omega), if_neg (by omega), if_neg h0, if_neg h1, if_neg h2, if_neg h3, if_pos (by omega)]
    refine br_c (fun g => ?_) (fun g => ?_)
    · have g' : 2 < m := (pk_lLT (a := 2) (by decide) (by omega)).mp g
      refine pk_lt (m % 100) 3 (fun g => t159 (by omega) (by omega) (by omega) (by omega)) (fun g => pk_lt 10 (m % 100) (fun g' => t159 (by omega) (by omega) (by omega) (by omega)) (fun g' => h 102 ?_))
      unfold pm_pL; rw [if_neg (by omega), if_neg (by omega), if_neg (by omega), if_neg (by omega), if_neg (by omega), if_pos (by omega)]
    · have g' : ¬ 2 < m := fun z => g ((pk_lLT (a := 2) (by decide) (by omega)).mpr z)
      refine br_c (fun k => h 122 ?_) (fun k0 => br_c (fun k => h 111 ?_) (fun k1 => h 116 ?_))
      · have := (pk_lEQ (b := 0) (by omega) (by decide)).mp k
        subst this; rfl
      · have := (pk_lEQ (b := 1) (by omega) (by decide)).mp k
        subst this; rfl
      · have n0 : m ≠ 0 := fun z => k0 (by subst z; rfl)
        have n1 : m ≠ 1 := fun z => k1 (by subst z; rfl)
        obtain rfl : m = 2 := by omega
        rfl
theorem pm_yLO {post : Int32 → Prop} {v : Int32} {r c : Nat} (hr : r ≤ 2) (hc : c < 65536) (h : post (pm_lt r c v)) : wpY_letterOf post (nI r, nn, ln, cs, lf, ct, lo, T, V, Q, W, M) (nI c) v := by
  unfold wpY_letterOf
  unfold pm_lt at h
  have b := pm_absB v
  refine pk_eq c 63 (fun e => ?_) (fun e => ?_)
  · rw [if_pos e] at h
    unfold wpY_pluralLetter
    refine br_c (fun g => ?_) (fun g => ?_)
    · rw [pm_absP v (Int32.not_lt.mpr g)]
      exact pm_yPL12 hr b (fun s hs => by subst hs; exact h)
    · rw [pm_absM v (Int32.not_le.mp g)]
      exact pm_yPL12 hr b (fun s hs => by subst hs; exact h)
  · rw [if_neg e] at h
    unfold pm_sL at h
    refine br_c (fun a => ?_) (fun a => br_c (fun b => ?_) (fun b => ?_))
    · rw [if_pos a] at h; exact h
    · rw [if_neg a, if_pos b] at h; exact h
    · rw [if_neg a, if_neg b] at h; exact h
theorem pm_yTA {post : Int32 → Prop} {p : Nat} (hT : ∀ j, T j = nI (t j)) (hn : n ≤ 96) (hp : p < n) (h : post (nI (t p))) : wpY_textAt post (ru, nI n, ln, cs, lf, ct, lo, T, V, Q, W, M) (nI p) := by
  unfold wpY_textAt
  refine pk_lt p 0 (fun z => absurd z (by omega)) (fun _ => pk_le n p (fun z => absurd z (by omega)) (fun _ => ⟨vp_in_nI (by omega) (by decide), ?_⟩))
  rw [nI_clamp (by omega), hT]; exact h
theorem pm_yCl6 {post : Int32 → Prop} {a b s f : Nat} (hab : a ≠ b) (ha : a < 65536) (hb : b < 65536) (hT : ∀ j, T j = nI (t j)) (hc : ∀ j, t j < 65536) (hn : n ≤ 96) (K : pm_Mt a b t n s f) (h : post (nI f)) : ∀ d k o : Nat, k + d = f → s ≤ k → pm_cn a b t k = pm_cn a b t s + o → ∀ m, d < m → wY_closing_6 post (nI a) (nI b) ru (nI n) ln cs lf ct lo T V Q W M m (nI o) (nI k) := by
  obtain ⟨m1, m2, m3, m4, m5⟩ := K
  intro d
  induction d with
  | zero =>
    intro k o hk hs ho m hm
    obtain ⟨m, rfl⟩ : ∃ x, m = x + 1 := ⟨m - 1, by omega⟩
    obtain rfl : k = f := by omega
    have c3 := pm_cn3 a b t k hab
    have g5 := m5 k m1 (Nat.le_refl k)
    have hck := hc k
    have c1 : pm_cn a b t (k + 1) = pm_cn a b t k - 1 ∧ t k = b ∧ o = 1 := by
      have c1 := pm_cn1 a b t k hab
      by_cases z : t k = b
      · have := c3.2.1 z; omega
      · by_cases y : t k = a
        · have := c3.1 y; omega
        · have := c3.2.2 y z; omega
    have hin : vp_in (nI k) 96 := vp_in_nI (by omega) (by decide)
    have hcl : T (nI k).toNatClampNeg = nI (t k) := by rw [nI_clamp (by omega)]; exact hT k
    rw [wY_closing_6]
    dsimp only
    rw [hcl]
    refine pk_le n k (fun z => absurd z (by omega)) (fun _ => ⟨hin, pk_eq (t k) a (fun z => absurd z (by omega)) (fun _ => ?_)⟩)
    unfold wY_closing_29
    rw [hcl]
    refine ⟨hin, pk_eq (t k) b (fun _ => nm_r (e' := nI 0) ?_ ?_) (fun z => absurd c1.2.1 z)⟩
    · rw [c1.2.2]; exact pk_m1 0
    · unfold wY_closing_43
      exact br_t rfl h
  | succ d ih =>
    intro k o hk hs ho m hm
    obtain ⟨m, rfl⟩ : ∃ x, m = x + 1 := ⟨m - 1, by omega⟩
    have c3 := pm_cn3 a b t k hab
    have g5 := m5 (k + 1) (by omega) (by omega)
    have bd := pm_cnB a b t hab (k + 1)
    have bs := pm_cnB a b t hab s
    have hck := hc k
    have hin : vp_in (nI k) 96 := vp_in_nI (by omega) (by decide)
    have hcl : T (nI k).toNatClampNeg = nI (t k) := by rw [nI_clamp (by omega)]; exact hT k
    have nx : ∀ o' : Nat, pm_cn a b t (k + 1) = pm_cn a b t s + o' → wY_closing_43 post (wY_closing_6 post (nI a) (nI b) ru (nI n) ln cs lf ct lo T V Q W M m) (nI a) (nI b) (nI o') (nI k) ru (nI n) ln cs lf ct lo T V Q W M := by
      intro o' ho'
      unfold wY_closing_43
      refine pk_eq o' 0 (fun z => absurd z (by omega)) (fun _ => nm_r (nI_1 k) ?_)
      exact ih (k + 1) o' (by omega) (by omega) ho' m (by omega)
    rw [wY_closing_6]
    dsimp only
    rw [hcl]
    refine pk_le n k (fun z => absurd z (by omega)) (fun _ => ⟨hin, pk_eq (t k) a (fun z => nm_r (nI_1 o) ?_) (fun z => ?_)⟩)
    · unfold wY_closing_29
      rw [hcl]
      refine ⟨hin, pk_eq (t k) b (fun y => absurd y (by omega)) (fun y => nx (o + 1) ?_)⟩
      have := c3.1 z; omega
    · unfold wY_closing_29
      rw [hcl]
      refine ⟨hin, pk_eq (t k) b (fun y => nm_r (e' := nI (o - 1)) ?_ (nx (o - 1) ?_)) (fun y => nx o ?_)⟩
      · have := c3.2.1 y
        obtain ⟨o', rfl⟩ : ∃ x, o = x + 1 := ⟨o - 1, by omega⟩
        exact pk_m1 o'
      · have := c3.2.1 y; omega
      · have := c3.2.2 z y; omega
theorem pm_yCl {post : Int32 → Prop} {a b s f : Nat} (hab : a ≠ b) (ha : a < 65536) (hb : b < 65536) (hT : ∀ j, T j = nI (t j)) (hc : ∀ j, t j < 65536) (hn : n ≤ 96) (K : pm_Mt a b t n s f) (h : post (nI f)) : wpY_closing post (ru, nI n, ln, cs, lf, ct, lo, T, V, Q, W, M) (nI s) (nI a) (nI b) :=
  ⟨f - s + 1, pm_yCl6 hab ha hb hT hc hn K h (f - s) s 0 (by have := K.1; omega) (Nat.le_refl s) (by omega) (f - s + 1) (by omega)⟩
def pm_en (o : Option Nat) : Int32 := match o with
  | some x => nI x
  | none => -1
theorem pm_lin1 {y a b : Int} (h : y = 1 - (a - b)) : y = 0 ↔ b = a - 1 := by omega
theorem pm_yAr6 {post : Int32 → Prop} {i : Nat} (hT : ∀ j, T j = nI (t j)) (hc : ∀ j, t j < 65536) (hi : i ≤ 96) (h : post (pm_en (pm_ar t i))) : ∀ k : Nat, k ≤ i → pm_ar t i = pm_ac t i k → ∀ (x : Int32), x.toInt = 1 - (pm_op t i - pm_op t k) → ∀ m, k < m → wY_around_6 post ru (nI n) ln cs lf ct lo T V Q W M m x (nI k - 1) := by
  intro k
  induction k with
  | zero =>
    intro hk ha x hx m hm
    obtain ⟨m, rfl⟩ : ∃ y, m = y + 1 := ⟨m - 1, by omega⟩
    rw [wY_around_6]
    rw [ha] at h
    exact br_t (by decide) h
  | succ k ih =>
    intro hk ha x hx m hm
    obtain ⟨m, rfl⟩ : ∃ y, m = y + 1 := ⟨m - 1, by omega⟩
    have c3 := pm_cn3 123 125 t k (by decide)
    have b1 := pm_cnB 123 125 t (by decide) i
    have b2 := pm_cnB 123 125 t (by decide) (k + 1)
    have hck := hc k
    have e1 := pm_i1 hx (by unfold pm_op; omega) (by unfold pm_op; omega)
    have hin : vp_in (nI k) 96 := vp_in_nI (by omega) (by decide)
    have hcl : T (nI k).toNatClampNeg = nI (t k) := by rw [nI_clamp (by omega)]; exact hT k
    have nx : ∀ y : Int32, y.toInt = 1 - (pm_op t i - pm_op t k) → wY_around_38 post (wY_around_6 post ru (nI n) ln cs lf ct lo T V Q W M m) y (nI k) ru (nI n) ln cs lf ct lo T V Q W M := by
      intro y hy
      unfold wY_around_38
      refine br_c (fun g => ?_) (fun g => nm_r (e' := nI k - 1) (Int32.sub_eq_add_neg _ _).symm ?_)
      · have g' : y.toInt = 0 := by rw [g]; rfl
        have : pm_ac t i (k + 1) = some k := if_pos ((pm_lin1 hy).mp g')
        rw [ha, this] at h
        exact h
      · have g' : y.toInt ≠ 0 := fun z => g (Int32.toInt_inj.mp (by rw [z]; rfl))
        exact ih (Nat.le_of_succ_le hk) (by rw [ha, pm_ac, if_neg (fun z => g' ((pm_lin1 hy).mpr z))]) y hy m (Nat.lt_of_succ_lt_succ hm)
    rw [wY_around_6]
    dsimp only
    rw [nI_pred, hcl]
    refine br_f (nI_pos (by omega)) ⟨hin, pk_eq (t k) 125 (fun z => nm_e ?_) (fun z => ?_)⟩
    · unfold wY_around_24
      rw [hcl]
      refine ⟨hin, pk_eq (t k) 123 (fun y => absurd y (by omega)) (fun y => nx _ ?_)⟩
      have := c3.2.1 z
      rw [e1.1]; unfold pm_op; omega
    · unfold wY_around_24
      rw [hcl]
      refine ⟨hin, pk_eq (t k) 123 (fun y => nm_e (nx _ ?_)) (fun y => nx _ ?_)⟩
      · have := c3.1 y
        rw [e1.2]; unfold pm_op; omega
      · have := c3.2.2 y z
        rw [hx]; unfold pm_op; omega
theorem pm_yAr {post : Int32 → Prop} {i : Nat} (hT : ∀ j, T j = nI (t j)) (hc : ∀ j, t j < 65536) (hi : i ≤ 96) (h : post (pm_en (pm_ar t i))) : wpY_around post (ru, nI n, ln, cs, lf, ct, lo, T, V, Q, W, M) (nI i) := by
  unfold wpY_around
  exact nm_e ⟨i + 1, pm_yAr6 hT hc hi h i (Nat.le_refl i) rfl 1 (by rw [Int.sub_self]; rfl) (i + 1) (by omega)⟩
end
end
section
/-! the chosen branch on both sides -/
theorem pm_MtP {t : Nat → Nat} {n p q : Nat} (S : pm_Snd t n) (K : pm_Ky t n p q) (hv : t q ≠ 125) : pm_Mt 40 41 t n (pm_pn t q) (pm_mt 40 41 t n (pm_pn t q)) := by
  obtain ⟨o1, o2, o3, o4, o5, o6, o7⟩ := pm_KyO S K hv
  have hn := pm_SndN S
  have i := pm_SndI S (Nat.le_of_lt o1)
  obtain ⟨a, b, c, d, e⟩ := pm_mt_ok (a := 40) (b := 41) (t := t) (by decide) o1 o3 (by
    have : pm_cn 40 41 t n = 0 := hn.2
    have : pm_pd t (pm_pn t q) = pm_op t (pm_pn t q) - 1 := i.2.2.2.2.2.2 (by omega)
    have := i.2.2.2.2.1 (by omega)
    unfold pm_pd pm_op at *
    omega)
  exact ⟨a, b, c, o3, e⟩
theorem pm_MtB {t : Nat → Nat} {n p : Nat} (S : pm_Snd t n) (hp : p < n) (hc : t p = 123) : pm_Mt 123 125 t n p (pm_mt 123 125 t n p) := by
  obtain ⟨a, b, c, d, e⟩ := pm_cend S hp hc
  exact ⟨a, b, c, hc, e⟩
def pm_P3 (t : Nat → Nat) (v : Int32) (q : Nat) : Bool := decide (t q = 61) && decide (nI (t (q + 1)) - 48 = v)
def pm_P2 (t : Nat → Nat) (l : Int32) (q : Nat) : Bool := (!decide (t q = 61)) && decide (nI (t q) = l)
def pm_P1 (t : Nat → Nat) (q : Nat) : Bool := (!decide (t q = 61)) && decide (t q = 120)
def pm_br (t : Nat → Nat) (n p : Nat) (v l : Int32) : Option Nat := pm_or (pm_fd t n (pm_P3 t v) 96 (p + 3)) (pm_or (pm_fd t n (pm_P2 t l) 96 (p + 3)) (pm_fd t n (pm_P1 t) 96 (p + 3)))
section
variable {rs ty wr lb lv lk : Int32} {T V O H R : Nat → Int32} {t : Nat → Nat} {n : Nat}
theorem pm_xRk {post : Int32 → Prop} {v l : Int32} {q : Nat} (h1 : t q < 65536) (h : post (nI (pm_rk (pm_P3 t v) (pm_P2 t l) (pm_P1 t) q))) : wpX_rankOf post (nI (t q)) (nI (t (q + 1))) v l := by
  unfold wpX_rankOf
  unfold pm_rk pm_P3 pm_P2 pm_P1 at h
  refine pk_eq (t q) 61 (fun e => br_c (fun g => ?_) (fun g => ?_)) (fun e => br_c (fun g => ?_) (fun g => pk_eq (t q) 120 (fun g' => ?_) (fun g' => ?_)))
  · rw [if_pos (by simp [e, g])] at h; exact h
  · rw [if_neg (by simp [e, g]), if_neg (by simp [e]), if_neg (by simp [e])] at h; exact h
  · rw [if_neg (by simp [e]), if_pos (by simp [e, g])] at h; exact h
  · rw [if_neg (by simp [e]), if_neg (by simp [e, g]), if_pos (by simp [g'])] at h; exact h
  · rw [if_neg (by simp [e]), if_neg (by simp [e, g]), if_neg (by simp [g'])] at h; exact h
theorem pm_rk3 (P3 P2 P1 : Nat → Bool) (q : Nat) : pm_rk P3 P2 P1 q ≤ 3 := by
  unfold pm_rk
  split
  · omega
  · split
    · omega
    · split <;> omega
theorem pm_xCB12 {post : Int32 → Prop} {v l : Int32} {p : Nat} (S : pm_Snd t n) (hT : ∀ j, T j = nI (t j)) (hc : ∀ j, t j < 65536) (hn : n ≤ 96) : ∀ (d k q : Nat) (ch : Option Nat) (r : Nat), k + d = 96 → pm_Ky t n p q → r ≤ 3 → post (pm_en (pm_xr t n (pm_rk (pm_P3 t v) (pm_P2 t l) (pm_P1 t)) d q ch r)) → ∀ f, d < f → wX_chosenBranch_12 post v l rs (nI n) wr lb lv lk T V O H R f (pm_en ch) (nI r) (nI q) (nI k) := by
  intro d
  induction d with
  | zero =>
    intro k q ch r hk K hr h f hf
    obtain ⟨f, rfl⟩ : ∃ x, f = x + 1 := ⟨f - 1, by omega⟩
    rw [wX_chosenBranch_12]
    exact pk_le 96 k (fun _ => h) (fun z => absurd z (by omega))
  | succ d ih =>
    intro k q ch r hk K hr h f hf
    obtain ⟨f, rfl⟩ : ∃ x, f = x + 1 := ⟨f - 1, by omega⟩
    have hq := K.2.1
    have hcq := hc q
    rw [wX_chosenBranch_12]
    refine pk_le 96 k (fun z => absurd z (by omega)) (fun _ => pk_le n q (fun z => absurd z (by omega)) (fun _ => ?_))
    refine pm_xTA hT hn hq ?_
    rw [pm_xr] at h
    refine pk_eq (t q) 125 (fun e => ?_) (fun e => ?_)
    · rw [if_pos (Or.inr e)] at h; exact h
    · rw [if_neg (fun z => z.elim (fun y => absurd y (by omega)) e)] at h
      obtain ⟨o1, o2, o3, o4, o5, o6, o7⟩ := pm_KyO S K e
      obtain ⟨n1, n2, n3⟩ := pm_KyN S K e
      have hM := pm_MtP S K e
      have rk3 := pm_rk3 (pm_P3 t v) (pm_P2 t l) (pm_P1 t) q
      rw [nI_1 q]
      refine pm_xTA hT hn (by omega) ?_
      refine pm_xRk hcq ?_
      have go : wX_chosenBranch_85 post (wX_chosenBranch_12 post v l rs (nI n) wr lb lv lk T V O H R f) v l (pm_en ch) (nI r) (nI k) (nI (pm_rk (pm_P3 t v) (pm_P2 t l) (pm_P1 t) q)) (nI (pm_pn t q)) rs (nI n) wr lb lv lk T V O H R := by
        unfold wX_chosenBranch_85
        refine pk_le (pm_rk (pm_P3 t v) (pm_P2 t l) (pm_P1 t) q) r (fun g => ?_) (fun g => nm_r (e' := pm_en (some (pm_pn t q + 1))) (nI_1 _) ?_)
        · rw [if_neg (by omega)] at h
          unfold wX_chosenBranch_104
          refine pm_xAM (a := 40) (b := 41) (by decide) (by decide) (by decide) hT hc hn hM (nm_r (nI_1 k) ?_)
          exact ih (k + 1) _ ch r (by omega) n3 hr h f (by omega)
        · rw [if_pos g] at h
          unfold wX_chosenBranch_104
          refine pm_xAM (a := 40) (b := 41) (by decide) (by decide) (by decide) hT hc hn hM (nm_r (nI_1 k) ?_)
          exact ih (k + 1) _ _ _ (by omega) n3 rk3 h f (by omega)
      refine pk_eq (t q) 61 (fun z => ?_) (fun z => ?_)
      · rw [show pm_pn t q = q + 2 from if_pos z] at go
        rw [show nI q + 2 = nI (q + 2) from nI_add q 2]
        exact go
      · rw [show pm_pn t q = q + 1 from if_neg z] at go
        exact go
theorem pm_xCB {post : Int32 → Prop} {v l : Int32} {p : Nat} (S : pm_Snd t n) (hT : ∀ j, T j = nI (t j)) (hc : ∀ j, t j < 65536) (hn : n ≤ 96) (K : pm_Ky t n p (p + 3)) (h : post (pm_en (pm_br t n p v l))) : wpX_chosenBranch post (rs, nI n, wr, lb, lv, lk, T, V, O, H, R) (nI (p + 3)) v l := by
  refine ⟨97, pm_xCB12 (p := p) S hT hc hn 96 0 (p + 3) none 0 (by omega) K (by omega) ?_ 97 (by omega)⟩
  rw [pm_xr_sel]
  unfold pm_sel
  rw [if_neg (by omega), if_neg (by omega), if_neg (by omega)]
  unfold pm_br at h
  have e : ∀ a : Option Nat, pm_or a none = a := fun a => by cases a <;> rfl
  rw [e]
  exact h
theorem pm_xEn {post : Int32 → SX → Prop} {p r L : Nat} (S : pm_Snd t n) (hT : ∀ j, T j = nI (t j)) (hc : ∀ j, t j < 65536) (hn : n ≤ 96) (hr : r ≤ 2) (hp : p < n) (hs : pm_st t p = 0) (hb : t p = 123) (hv : t (p + 2) ≠ 125) (hL : L < 4)
    (h0 : pm_br t n p (V (t (p + 1) - 48)) (pm_lt r (t (p + 2)) (V (t (p + 1) - 48))) = none → post (nI (pm_mt 123 125 t n p + 1)) (nI r, nI n, wr, lb, nI L, lk ||| ((1 : Int32) <<< (nI (t (p + 1) - 48) &&& 31)), T, V, O, H, R))
    (h1 : ∀ b, pm_br t n p (V (t (p + 1) - 48)) (pm_lt r (t (p + 2)) (V (t (p + 1) - 48))) = some b → b ≤ 96 ∧ post (nI b) (nI r, nI n, wr, lb, nI (L + 1), lk ||| ((1 : Int32) <<< (nI (t (p + 1) - 48) &&& 31)), T, V, O, upd H (L + 1) (if t (p + 2) = 63 then nI (t (p + 1) - 48) else H L), upd R (L + 1) (nI (pm_mt 123 125 t n p + 1)))) :
    wpX_enterChoice post (nI r, nI n, wr, lb, nI L, lk, T, V, O, H, R) (nI p) := by
  obtain ⟨b1, b2, b3, b4, b5, b6⟩ := pm_brace S hp hs hb
  have K := pm_Ky0 S hp hs hb hv
  have M := pm_MtB S hp hb
  have hc2 := hc (p + 2)
  have s52 : ∀ z : Int32, (z = if t (p + 2) = 63 then 1 else 0) → wX_enterChoice_52 post (nI p) (nI (t (p + 1) - 48)) z (V (t (p + 1) - 48)) (pm_lt r (t (p + 2)) (V (t (p + 1) - 48))) (nI r) (nI n) wr lb (nI L) lk T V O H R := by
    intro z hz
    unfold wX_enterChoice_52
    refine nm_e ?_
    rw [show nI p + 3 = nI (p + 3) from nI_add p 3]
    refine pm_xCB S hT hc hn K ?_
    refine pm_xAM (a := 123) (b := 125) (by decide) (by decide) (by decide) hT hc hn M ?_
    cases e : pm_br t n p (V (t (p + 1) - 48)) (pm_lt r (t (p + 2)) (V (t (p + 1) - 48))) with
    | none => exact br_t rfl (h0 e)
    | some b =>
      obtain ⟨hb96, hpost⟩ := h1 b e
      have nb : ¬ pm_en (some b) = -1 := by
        intro y
        have y' : nI b = -1 := y
        have := congrArg Int32.toInt y'
        rw [nI_toInt (by omega)] at this
        have e1 : (-1 : Int32).toInt = -1 := rfl
        omega
      refine br_f nb (pk_lt L 0 (fun y => absurd y (by omega)) (fun _ => pk_lt L 4 (fun _ => ?_) (fun y => absurd y (by omega))))
      have fin : ∀ x : Int32, x = (if t (p + 2) = 63 then nI (t (p + 1) - 48) else H L) → wX_enterChoice_141 post (pm_en (some b)) (nI (pm_mt 123 125 t n p + 1)) x (nI L + 1) (nI r) (nI n) wr lb (nI L) (lk ||| ((1 : Int32) <<< (nI (t (p + 1) - 48) &&& 31))) T V O H R := by
        intro x hx
        unfold wX_enterChoice_141
        rw [nI_1 L, nI_clamp (n := L + 1) (by omega)]
        refine ⟨vp_in_nI (by omega) (by decide), nm_r (by rw [hx]) ⟨vp_in_nI (by omega) (by decide), nm_e (nm_e hpost)⟩⟩
      by_cases c : t (p + 2) = 63
      · rw [if_pos c] at hz
        exact br_f (by rw [hz]; decide) (fin _ (by rw [if_pos c]))
      · rw [if_neg c] at hz
        refine br_t hz ⟨vp_in_nI (by omega) (by decide), ?_⟩
        rw [nI_clamp (n := L) (by omega)]
        exact fin _ (by rw [if_neg c])
  unfold wpX_enterChoice
  rw [nI_1 p, show nI p + 2 = nI (p + 2) from nI_add p 2]
  refine pm_xAA hT hn (by omega) b2 b3 ?_
  refine pm_xTA hT hn b1 ?_
  have hin : vp_in (nI (t (p + 1) - 48)) 4 := vp_in_nI (by omega) (by decide)
  have hcl : (nI (t (p + 1) - 48)).toNatClampNeg = t (p + 1) - 48 := nI_clamp (by omega)
  refine pk_eq (t (p + 2)) 63 (fun e => ?_) (fun e => ?_)
  · unfold wX_enterChoice_25
    rw [hcl]
    refine ⟨hin, nm_e (br_f (by decide) ?_)⟩
    refine pm_xPL hr ?_
    have q := s52 1 (by rw [if_pos e])
    rw [show pm_lt r (t (p + 2)) (V (t (p + 1) - 48)) = nI (pm_pL r (V (t (p + 1) - 48)).toInt.natAbs) from if_pos e] at q
    exact q
  · unfold wX_enterChoice_25
    rw [hcl]
    refine ⟨hin, nm_e (br_t rfl ?_)⟩
    refine pm_xSel ?_
    have q := s52 0 (by rw [if_neg e])
    rw [show pm_lt r (t (p + 2)) (V (t (p + 1) - 48)) = pm_sL (V (t (p + 1) - 48)) from if_neg e] at q
    exact q
end
section
variable {ru nn ln cs lf ct lo : Int32} {T V Q W M : Nat → Int32} {t : Nat → Nat} {n : Nat}
def pm_PY (t : Nat → Nat) (dg : Bool) (key : Int32) (q : Nat) : Bool := (decide (t q = 61) == dg) && decide (nI (t (pm_pn t q - 1)) = key)
theorem pm_yBO8 {post : Int32 → Prop} {x2 key : Int32} {dg : Bool} {p : Nat} (hx : x2 = if dg = true then 1 else 0) (S : pm_Snd t n) (hT : ∀ j, T j = nI (t j)) (hc : ∀ j, t j < 65536) (hn : n ≤ 96) : ∀ d k q : Nat, k + d = 96 → pm_Ky t n p q → post (pm_en (pm_fd t n (pm_PY t dg key) d q)) → ∀ f, d < f → wY_branchOf_8 post x2 key ru (nI n) ln cs lf ct lo T V Q W M f (nI q) (nI k) := by
  intro d
  induction d with
  | zero =>
    intro k q hk K h f hf
    obtain ⟨f, rfl⟩ : ∃ x, f = x + 1 := ⟨f - 1, by omega⟩
    rw [wY_branchOf_8]
    exact pk_le 96 k (fun _ => h) (fun z => absurd z (by omega))
  | succ d ih =>
    intro k q hk K h f hf
    obtain ⟨f, rfl⟩ : ∃ x, f = x + 1 := ⟨f - 1, by omega⟩
    have hq := K.2.1
    have hcq := hc q
    have hin : vp_in (nI q) 96 := vp_in_nI (by omega) (by decide)
    have hcl : T (nI q).toNatClampNeg = nI (t q) := by rw [nI_clamp (by omega)]; exact hT q
    rw [wY_branchOf_8]
    dsimp only
    rw [hcl]
    refine pk_le 96 k (fun z => absurd z (by omega)) (fun _ => pk_le n q (fun z => absurd z (by omega)) (fun _ => ⟨hin, ?_⟩))
    rw [pm_fd] at h
    refine pk_eq (t q) 125 (fun e => ?_) (fun e => ⟨hin, ?_⟩)
    · rw [if_pos (Or.inr e)] at h; exact h
    · rw [if_neg (fun z => z.elim (fun y => absurd y (by omega)) e)] at h
      obtain ⟨o1, o2, o3, o4, o5, o6, o7⟩ := pm_KyO S K e
      obtain ⟨n1, n2, n3⟩ := pm_KyN S K e
      have hM := pm_MtP S K e
      have tail : ¬ pm_PY t dg key q = true → wY_branchOf_96 post (wY_branchOf_8 post x2 key ru (nI n) ln cs lf ct lo T V Q W M f) x2 key (nI k) (nI (pm_pn t q)) ru (nI n) ln cs lf ct lo T V Q W M := by
        intro np
        rw [if_neg np] at h
        unfold wY_branchOf_96
        refine pm_yCl (a := 40) (b := 41) (by decide) (by decide) (by decide) hT hc hn hM (nm_r (nI_1 _) (nm_r (nI_1 k) ?_))
        exact ih (k + 1) _ (by omega) n3 h f (by omega)
      have go : ∀ nb : Int32, (nb = x2 ↔ (decide (t q = 61) == dg) = true) → wY_branchOf_71 post (wY_branchOf_8 post x2 key ru (nI n) ln cs lf ct lo T V Q W M f) x2 key (nI k) nb (nI (pm_pn t q)) ru (nI n) ln cs lf ct lo T V Q W M := by
        intro nb hnb
        unfold wY_branchOf_71
        refine br_c (fun z => ?_) (fun z => tail (fun y => z (hnb.mpr ?_)))
        · rw [show nI (pm_pn t q) - 1 = nI (pm_pn t q - 1) from pk_sub (b := 1) (by omega)]
          refine pm_yTA hT hn (by omega) ?_
          have z' := hnb.mp z
          refine br_c (fun g => ?_) (fun g => tail (fun y => g ?_))
          · have : pm_PY t dg key q = true := by unfold pm_PY; rw [z', Bool.true_and]; exact decide_eq_true g
            rw [if_pos this] at h
            rw [nI_1]
            exact h
          · unfold pm_PY at y
            exact of_decide_eq_true (Bool.and_eq_true_iff.mp y).2
        · unfold pm_PY at y
          exact (Bool.and_eq_true_iff.mp y).1
      refine pk_eq (t q) 61 (fun z => ?_) (fun z => ?_)
      · unfold wY_branchOf_53
        have g := go 1 (by rw [hx]; cases dg <;> simp [z])
        rw [show pm_pn t q = q + 2 from if_pos z] at g
        rw [show nI q + 2 = nI (q + 2) from nI_add q 2]
        exact br_f (by decide) g
      · unfold wY_branchOf_53
        have g := go 0 (by rw [hx]; cases dg <;> simp [z])
        rw [show pm_pn t q = q + 1 from if_neg z] at g
        rw [nI_1 q]
        exact br_t rfl g
theorem pm_yBO {post : Int32 → Prop} {x2 key : Int32} (dg : Bool) {p : Nat} (hx : x2 = if dg = true then 1 else 0) (S : pm_Snd t n) (hT : ∀ j, T j = nI (t j)) (hc : ∀ j, t j < 65536) (hn : n ≤ 96) (K : pm_Ky t n p (p + 3)) (h : post (pm_en (pm_fd t n (pm_PY t dg key) 96 (p + 3)))) : wpY_branchOf post (ru, nI n, ln, cs, lf, ct, lo, T, V, Q, W, M) (nI p) x2 key := by
  unfold wpY_branchOf
  exact nm_r (nI_add p 3) ⟨97, pm_yBO8 (p := p) hx S hT hc hn 96 0 (p + 3) (by omega) K h 97 (by omega)⟩
theorem pm_fd_f (t : Nat → Nat) (n : Nat) : ∀ d q, pm_fd t n (fun _ => false) d q = none := by
  intro d
  induction d with
  | zero => intro q; rfl
  | succ d ih =>
    intro q
    rw [pm_fd]
    split
    · rfl
    · rw [if_neg (by simp), ih]
theorem pm_eq3 {t : Nat → Nat} {n p : Nat} {v : Int32} (S : pm_Snd t n) (K : pm_Ky t n p (p + 3)) : pm_fd t n (pm_PY t true (48 + v)) 96 (p + 3) = pm_fd t n (pm_P3 t v) 96 (p + 3) := by
  refine pm_fd_eq (p := p) S _ _ (fun q Kq hv => ?_) 96 (p + 3) K
  unfold pm_PY pm_P3
  by_cases z : t q = 61
  · rw [show pm_pn t q = q + 2 from if_pos z, show q + 2 - 1 = q + 1 by omega]
    have : (nI (t (q + 1)) = 48 + v) ↔ (nI (t (q + 1)) - 48 = v) := by
      generalize nI (t (q + 1)) = x
      constructor <;> intro h <;> grind
    simp only [z, this]
    rfl
  · simp [z]
theorem pm_eq2 {t : Nat → Nat} {n p : Nat} {l : Int32} (S : pm_Snd t n) (K : pm_Ky t n p (p + 3)) : pm_fd t n (pm_PY t false l) 96 (p + 3) = pm_fd t n (pm_P2 t l) 96 (p + 3) := by
  refine pm_fd_eq (p := p) S _ _ (fun q Kq hv => ?_) 96 (p + 3) K
  unfold pm_PY pm_P2
  by_cases z : t q = 61
  · simp [z]
  · rw [show pm_pn t q = q + 1 from if_neg z, show q + 1 - 1 = q by omega]
    simp [z]
theorem pm_eq1 {t : Nat → Nat} {n p : Nat} (hc : ∀ j, t j < 65536) (S : pm_Snd t n) (K : pm_Ky t n p (p + 3)) : pm_fd t n (pm_PY t false 120) 96 (p + 3) = pm_fd t n (pm_P1 t) 96 (p + 3) := by
  refine pm_fd_eq (p := p) S _ _ (fun q Kq hv => ?_) 96 (p + 3) K
  unfold pm_PY pm_P1
  by_cases z : t q = 61
  · simp [z]
  · rw [show pm_pn t q = q + 1 from if_neg z, show q + 1 - 1 = q by omega]
    have hq := hc q
    have : (nI (t q) = 120) ↔ t q = 120 := nI_eq (b := 120) (by omega) (by decide)
    simp only [this]
    simp [z]
theorem pm_no3 {t : Nat → Nat} {n p : Nat} {v : Int32} (S : pm_Snd t n) (K : pm_Ky t n p (p + 3)) (hv : v < 0 ∨ 9 < v) : pm_fd t n (pm_P3 t v) 96 (p + 3) = none := by
  rw [← pm_fd_f t n 96 (p + 3)]
  refine pm_fd_eq (p := p) S _ _ (fun q Kq hq => ?_) 96 (p + 3) K
  unfold pm_P3
  by_cases z : t q = 61
  · have d := ((pm_KyO S Kq hq).2.2.2.1 z).1
    unfold pm_dg at d
    rw [show nI (t (q + 1)) - 48 = nI (t (q + 1) - 48) from pk_sub (b := 48) (by omega)]
    have ne : ¬ nI (t (q + 1) - 48) = v := by
      intro y
      rw [← y] at hv
      rcases hv with hv | hv
      · exact nI_pos (by omega) hv
      · have := (nI_ltI (a := 9) (by decide) (by omega)).mp hv
        omega
    simp [ne]
  · simp [z]
def pm_fi (t : Nat → Nat) (n p : Nat) (o : Option Nat) : Int32 := match o with
  | some b => nI b
  | none => nI (pm_mt 123 125 t n p + 1)
theorem pm_yC69 {post : Int32 → Prop} {p : Nat} (o : Option Nat) (S : pm_Snd t n) (hT : ∀ j, T j = nI (t j)) (hc : ∀ j, t j < 65536) (hn : n ≤ 96) (hp : p < n) (hb : t p = 123) (ho : ∀ b, o = some b → b ≤ 96) (h : post (pm_fi t n p o)) : wY_chosen_69 post (nI p) (pm_en o) ru (nI n) ln cs lf ct lo T V Q W M := by
  unfold wY_chosen_69
  cases o with
  | some b =>
    have := ho b rfl
    exact br_t (nI_pos' (by omega)) h
  | none =>
    refine br_f (show ¬ (0 : Int32) ≤ -1 by decide) ?_
    refine pm_yCl (a := 123) (b := 125) (by decide) (by decide) (by decide) hT hc hn (pm_MtB S hp hb) ?_
    rw [nI_1]
    exact h
theorem pm_yC56 {post : Int32 → Prop} {p : Nat} (o : Option Nat) (S : pm_Snd t n) (hT : ∀ j, T j = nI (t j)) (hc : ∀ j, t j < 65536) (hn : n ≤ 96) (hp : p < n) (hb : t p = 123) (K : pm_Ky t n p (p + 3)) (ho : ∀ b, o = some b → b ≤ 96) (h : post (pm_fi t n p (pm_or o (pm_fd t n (pm_P1 t) 96 (p + 3))))) : wY_chosen_56 post (nI p) (pm_en o) ru (nI n) ln cs lf ct lo T V Q W M := by
  unfold wY_chosen_56
  cases o with
  | some b =>
    have := ho b rfl
    exact br_t (nI_pos' (by omega)) (pm_yC69 (some b) S hT hc hn hp hb ho h)
  | none =>
    refine br_f (show ¬ (0 : Int32) ≤ -1 by decide) ?_
    refine pm_yBO false rfl S hT hc hn K ?_
    rw [pm_eq1 hc S K]
    exact pm_yC69 _ S hT hc hn hp hb (fun b e => by have := (pm_fd_in S _ 96 (p + 3) b K e).2.1; omega) h
theorem pm_yC24 {post : Int32 → Prop} {p r : Nat} {v : Int32} (o : Option Nat) (S : pm_Snd t n) (hT : ∀ j, T j = nI (t j)) (hc : ∀ j, t j < 65536) (hn : n ≤ 96) (hr : r ≤ 2) (hp : p + 2 < n) (hb : t p = 123) (K : pm_Ky t n p (p + 3)) (ho : ∀ b, o = some b → b ≤ 96) (h : post (pm_fi t n p (pm_or o (pm_or (pm_fd t n (pm_P2 t (pm_lt r (t (p + 2)) v)) 96 (p + 3)) (pm_fd t n (pm_P1 t) 96 (p + 3)))))) : wY_chosen_24 post (nI p) v (pm_en o) (nI r) (nI n) ln cs lf ct lo T V Q W M := by
  unfold wY_chosen_24
  rw [show nI p + 2 = nI (p + 2) from nI_add p 2]
  refine pm_yTA hT hn hp ?_
  refine pm_yLO hr (hc _) ?_
  cases o with
  | some b =>
    have := ho b rfl
    exact br_t (nI_pos' (by omega)) (pm_yC56 (some b) S hT hc hn (by omega) hb K ho h)
  | none =>
    refine br_f (show ¬ (0 : Int32) ≤ -1 by decide) ?_
    refine pm_yBO false rfl S hT hc hn K ?_
    rw [pm_eq2 S K]
    exact pm_yC56 _ S hT hc hn (by omega) hb K (fun b e => by have := (pm_fd_in S _ 96 (p + 3) b K e).2.1; omega) h
theorem pm_yCh {post : Int32 → Prop} {p r : Nat} {v : Int32} (S : pm_Snd t n) (hT : ∀ j, T j = nI (t j)) (hc : ∀ j, t j < 65536) (hn : n ≤ 96) (hr : r ≤ 2) (hp : p + 2 < n) (hb : t p = 123) (K : pm_Ky t n p (p + 3)) (h : post (pm_fi t n p (pm_br t n p v (pm_lt r (t (p + 2)) v)))) : wpY_chosen post (nI r, nI n, ln, cs, lf, ct, lo, T, V, Q, W, M) (nI p) v := by
  unfold pm_br at h
  unfold wpY_chosen
  have neg : (v < 0 ∨ 9 < v) → wY_chosen_23 post (nI p) v (nI r) (nI n) ln cs lf ct lo T V Q W M := by
    intro hv
    rw [pm_no3 S K hv] at h
    unfold wY_chosen_23
    exact pm_yC24 none S hT hc hn hr hp hb K (fun b e => nomatch e) h
  refine br_c (fun a => neg (Or.inl a)) (fun a => br_c (fun b => neg (Or.inr b)) (fun b => ?_))
  refine pm_yBO true rfl S hT hc hn K ?_
  rw [pm_eq3 S K]
  exact pm_yC24 _ S hT hc hn hr hp hb K (fun b e => by have := (pm_fd_in S _ 96 (p + 3) b K e).2.1; omega) h
end
end
section
/-! one step of formatting, in lockstep -/
abbrev pm_bit (a : Nat) : Int32 := (1 : Int32) <<< (nI a &&& 31)
def pm_Iv (t : Nat → Nat) (n p L w : Nat) (lk : Int32) (O M H R : Nat → Int32) : Prop := p ≤ n ∧ pm_st t p = 0 ∧ pm_Ch t n H R L p ∧ pm_Eq O M w ∧ ∀ l, l ≤ L → H l = -1 ∨ ∃ a, a < 4 ∧ H l = nI a ∧ lk ||| ((1 : Int32) <<< (nI a &&& 31)) = lk
def pm_Nx (t : Nat → Nat) (n r k p L w : Nat) (lb lk : Int32) (T V O H R M : Nat → Int32) : Prop :=
  ∃ (p' L' w' : Nat) (lk' : Int32) (O' M' H' R' : Nat → Int32), pm_Iv t n p' L' w' lk' O' M' H' R' ∧ w' ≤ w + 11
    ∧ (∀ (post : SX → Prop) (f : Nat), wX_writeTemplate_16 post f (nI p') (nI (k + 1)) (nI r) (nI n) (nI w') lb (nI L') lk' T V O' H' R' → wX_writeTemplate_16 post (f + 1) (nI p) (nI k) (nI r) (nI n) (nI w) lb (nI L) lk T V O H R)
    ∧ (∀ (ln cs lf : Int32) (Q W : Nat → Int32) (post : Int32 → SY → Prop), post (nI p') (nI r, nI n, ln, cs, lf, nI w', lk', T, V, Q, W, M') → wpY_step post (nI r, nI n, ln, cs, lf, nI w, lk, T, V, Q, W, M) (nI p))
theorem pm_nm1 {a : Nat} (h : a < 2 ^ 31) : ¬ nI a = -1 := by
  intro y
  have := congrArg Int32.toInt y
  rw [nI_toInt h] at this
  have e1 : (-1 : Int32).toInt = -1 := rfl
  omega
theorem pm_orK {lk x b : Int32} (h : lk ||| b = lk) : lk ||| x ||| b = lk ||| x := by
  rw [Int32.or_assoc, Int32.or_comm x b, ← Int32.or_assoc, h]
theorem pm_orS (lk x : Int32) : lk ||| x ||| x = lk ||| x := by
  rw [Int32.or_assoc, Int32.or_self]
section
variable {lb lv lk ln cs lf : Int32} {T V O H R Q W M : Nat → Int32} {t : Nat → Nat} {n r : Nat}
theorem pm_xO75 {post : SX → Prop} {p k w f : Nat} (S : pm_Snd t n) (hT : ∀ j, T j = nI (t j)) (hc : ∀ j, t j < 65536) (hn : n ≤ 96) (hk : k < 96) (hp : p < n) (hs : pm_st t p = 0) (hne : t p = 123 → t (p + 2) ≠ 125) (h : wX_writeTemplate_75 post (wX_writeTemplate_16 post f) (nI p) (nI k) (nI (t p)) (nI r) (nI n) (nI w) lb lv lk T V O H R) : wX_writeTemplate_16 post (f + 1) (nI p) (nI k) (nI r) (nI n) (nI w) lb lv lk T V O H R := by
  have hcp := hc p
  have hcp2 := hc (p + 2)
  rw [wX_writeTemplate_16]
  refine pk_le 96 k (fun z => absurd z (by omega)) (fun _ => pk_le n p (fun z => absurd z (by omega)) (fun _ => ?_))
  refine pm_xTA hT hn hp ?_
  refine pk_eq (t p) 123 (fun e => ?_) (fun e => h)
  rw [show nI p + 2 = nI (p + 2) from nI_add p 2]
  refine pm_xTA hT hn (pm_brace S hp hs e).1 ?_
  exact pk_eq (t (p + 2)) 125 (fun z => absurd z (hne e)) (fun _ => h)
/-- a closing parenthesis -/
theorem pm_sLeave {p k w L : Nat} (S : pm_Snd t n) (hT : ∀ j, T j = nI (t j)) (hc : ∀ j, t j < 65536) (hn : n ≤ 96) (hk : k < 96) (I : pm_Iv t n p L w lk O M H R) (hp : p < n) (h41 : t p = 41) : pm_Nx t n r k p L w lb lk T V O H R M := by
  obtain ⟨i1, i2, i3, i4, i5⟩ := I
  have po := pm_paren S hp i2 h41
  have lo := pm_Ch_op i3
  have hI := pm_SndI S i1
  cases L with
  | zero => omega
  | succ l =>
    obtain ⟨j0, c, j1, j2, j3, j4, j5, j6, j7, j8⟩ := i3
    obtain ⟨e1, e2, e3, e4, e5⟩ := pm_cend S j4 j2
    have hin : vp_in (nI p) 96 := vp_in_nI (by omega) (by decide)
    have hcl : T (nI p).toNatClampNeg = nI (t p) := by rw [nI_clamp (by omega)]; exact hT p
    refine ⟨pm_mt 123 125 t n c + 1, l, w, lk, O, M, H, R, ⟨by omega, e4, ?_, i4, fun j hj => i5 j (by omega)⟩, by omega, fun post f h => ?_, fun ln cs lf Q W post h => ?_⟩
    · refine pm_Ch_move j8 (by omega) e3 (fun x x1 x2 => ?_)
      rcases Nat.eq_or_lt_of_le x1 with y | y
      · rw [← y]; exact Int.le_refl _
      · have := e5 x y (by omega); omega
    · refine pm_xO75 S hT hc hn hk hp i2 (fun z => absurd z (by omega)) ?_
      rw [h41]
      unfold wX_writeTemplate_75
      refine br_f (by decide) (br_t rfl ?_)
      unfold wpX_leaveChoice
      refine pk_le (l + 1) 0 (fun z => absurd z (by omega)) (fun _ => pk_lt (l + 1) 5 (fun _ => nm_r (nI_pred l) ?_) (fun z => absurd z (by omega)))
      rw [nI_1 l, nI_clamp (n := l + 1) (by omega), j5]
      exact ⟨vp_in_nI (by omega) (by decide), nm_r (nI_1 k) h⟩
    · unfold wpY_step
      dsimp only
      rw [hcl, h41]
      refine ⟨hin, br_t rfl ?_⟩
      refine pm_yAr hT hc (by omega) ?_
      rw [pm_ar_some j1]
      refine br_t (nI_pos' (by omega)) ?_
      unfold wY_step_27
      refine pm_yCl (a := 123) (b := 125) (by decide) (by decide) (by decide) hT hc hn (pm_MtB S j4 j2) ?_
      rw [nI_1]
      exact h
theorem pm_and3 {c : Nat} (h1 : 48 ≤ c) (h2 : c ≤ 51) : (nI c - 48) &&& 3 = nI (c - 48) := by
  rw [show nI c - 48 = nI (c - 48) from pk_sub (b := 48) h1, pk_andN (by omega) 2 (by decide)]
  exact congrArg nI (by omega)
theorem pm_IvB {lk x : Int32} {L : Nat} {H : Nat → Int32} (i5 : ∀ l, l ≤ L → H l = -1 ∨ ∃ a, a < 4 ∧ H l = nI a ∧ lk ||| ((1 : Int32) <<< (nI a &&& 31)) = lk) : ∀ l, l ≤ L → H l = -1 ∨ ∃ a, a < 4 ∧ H l = nI a ∧ (lk ||| x) ||| ((1 : Int32) <<< (nI a &&& 31)) = lk ||| x := by
  intro l hl
  rcases i5 l hl with y | ⟨a, a1, a2, a3⟩
  · exact Or.inl y
  · exact Or.inr ⟨a, a1, a2, pm_orK a3⟩
/-- a value -/
theorem pm_sVal {p k w L : Nat} (S : pm_Snd t n) (hT : ∀ j, T j = nI (t j)) (hc : ∀ j, t j < 65536) (hn : n ≤ 96) (hk : k < 96) (hw : w ≤ 11 * k) (I : pm_Iv t n p L w lk O M H R) (hp : p < n) (hb : t p = 123) (hv : t (p + 2) = 125) : pm_Nx t n r k p L w lb lk T V O H R M := by
  obtain ⟨i1, i2, i3, i4, i5⟩ := I
  obtain ⟨b1, b2, b3, b4, b5, b6⟩ := pm_brace S hp i2 hb
  have b7 : pm_st t (p + 3) = 0 ∧ pm_op t (p + 3) = pm_op t p := by
    rcases b6 with b6 | b6
    · exact b6.2
    · omega
  have hin : vp_in (nI p) 96 := vp_in_nI (by omega) (by decide)
  have hcl : T (nI p).toNatClampNeg = nI (t p) := by rw [nI_clamp (by omega)]; exact hT p
  have len := pm_nl_len (V (t (p + 1) - 48))
  refine ⟨p + 3, L, w + (pm_nl (V (t (p + 1) - 48))).length, lk ||| pm_bit (t (p + 1) - 48), pm_ps (pm_nl (V (t (p + 1) - 48))) O w, pm_ps (pm_nl (V (t (p + 1) - 48))) M w, H, R, ⟨by omega, b7.1, ?_, pm_Eq_ps _ i4, pm_IvB i5⟩, by omega, fun post f h => ?_, fun ln cs lf Q W post h => ?_⟩
  · refine pm_Ch_move i3 (by omega) b7.2 (fun x x1 x2 => ?_)
    rcases (by omega : x = p ∨ x = p + 1 ∨ x = p + 2) with y | y | y <;> rw [y] <;> omega
  · rw [wX_writeTemplate_16]
    refine pk_le 96 k (fun z => absurd z (by omega)) (fun _ => pk_le n p (fun z => absurd z (by omega)) (fun _ => ?_))
    refine pm_xTA hT hn hp ?_
    rw [hb]
    refine br_t rfl ?_
    rw [show nI p + 2 = nI (p + 2) from nI_add p 2, nI_1 p]
    refine pm_xTA hT hn b1 ?_
    rw [hv]
    refine br_t rfl ?_
    refine pm_xAA hT hn (by omega) b2 b3 ?_
    refine pm_xWV (by omega) (by omega) ?_
    exact nm_r (nI_add p 3) (nm_r (nI_1 k) h)
  · unfold wpY_step
    dsimp only
    rw [hcl, hb]
    refine ⟨hin, br_f (by decide) ⟨hin, br_t rfl ?_⟩⟩
    rw [nI_1 p, show nI p + 2 = nI (p + 2) from nI_add p 2]
    refine pm_yTA hT hn (by omega) ?_
    refine nm_r (pm_and3 b2 b3) (nm_e ?_)
    refine pm_yTA hT hn b1 ?_
    rw [hv]
    refine br_t rfl ⟨vp_in_nI (by omega) (by decide), ?_⟩
    rw [nI_clamp (n := t (p + 1) - 48) (by omega)]
    refine pm_yPN (by omega) ?_
    rw [show nI p + 3 = nI (p + 3) from nI_add p 3]
    exact h
/-- a choice -/
theorem pm_sEnter {p k w L : Nat} (S : pm_Snd t n) (hT : ∀ j, T j = nI (t j)) (hc : ∀ j, t j < 65536) (hn : n ≤ 96) (hr : r ≤ 2) (hk : k < 96) (I : pm_Iv t n p L w lk O M H R) (hp : p < n) (hb : t p = 123) (hv : t (p + 2) ≠ 125) : pm_Nx t n r k p L w lb lk T V O H R M := by
  obtain ⟨i1, i2, i3, i4, i5⟩ := I
  obtain ⟨b1, b2, b3, b4, b5, b6⟩ := pm_brace S hp i2 hb
  have K := pm_Ky0 S hp i2 hb hv
  have lo := pm_Ch_op i3
  have hI := pm_SndI S (k := p + 1) (by omega)
  obtain ⟨e1, e2, e3, e4, e5⟩ := pm_cend S hp hb
  have hin : vp_in (nI p) 96 := vp_in_nI (by omega) (by decide)
  have hcl : T (nI p).toNatClampNeg = nI (t p) := by rw [nI_clamp (by omega)]; exact hT p
  have yst : ∀ (ln cs lf : Int32) (Q W : Nat → Int32) (post : Int32 → SY → Prop), post (pm_fi t n p (pm_br t n p (V (t (p + 1) - 48)) (pm_lt r (t (p + 2)) (V (t (p + 1) - 48))))) (nI r, nI n, ln, cs, lf, nI w, lk ||| pm_bit (t (p + 1) - 48), T, V, Q, W, M) → wpY_step post (nI r, nI n, ln, cs, lf, nI w, lk, T, V, Q, W, M) (nI p) := by
    intro ln cs lf Q W post h
    have hc2 := hc (p + 2)
    unfold wpY_step
    dsimp only
    rw [hcl, hb]
    refine ⟨hin, br_f (by decide) ⟨hin, br_t rfl ?_⟩⟩
    rw [nI_1 p, show nI p + 2 = nI (p + 2) from nI_add p 2]
    refine pm_yTA hT hn (by omega) ?_
    refine nm_r (pm_and3 b2 b3) (nm_e ?_)
    refine pm_yTA hT hn b1 ?_
    refine pk_eq (t (p + 2)) 125 (fun z => absurd z hv) (fun _ => ⟨vp_in_nI (by omega) (by decide), ?_⟩)
    rw [nI_clamp (n := t (p + 1) - 48) (by omega)]
    exact pm_yCh S hT hc hn hr b1 hb K h
  cases e : pm_br t n p (V (t (p + 1) - 48)) (pm_lt r (t (p + 2)) (V (t (p + 1) - 48))) with
  | none =>
    rw [e] at yst
    refine ⟨pm_mt 123 125 t n p + 1, L, w, lk ||| pm_bit (t (p + 1) - 48), O, M, H, R, ⟨by omega, e4, ?_, i4, pm_IvB i5⟩, by omega, fun post f h => ?_, yst⟩
    · refine pm_Ch_move i3 (by omega) e3 (fun x x1 x2 => ?_)
      rcases Nat.eq_or_lt_of_le x1 with y | y
      · rw [← y]; exact Int.le_refl _
      · have := e5 x y (by omega); omega
    · refine pm_xO75 S hT hc hn hk hp i2 (fun _ => hv) ?_
      rw [hb]
      unfold wX_writeTemplate_75
      refine br_t rfl ?_
      refine pm_xEn S hT hc hn hr hp i2 hb hv (by omega) (fun _ => nm_r (nI_1 k) h) (fun b y => ?_)
      rw [e] at y
      exact nomatch y
  | some b =>
    rw [e] at yst
    have inb : pm_In t n p b := by
      unfold pm_br at e
      cases e' : pm_fd t n (pm_P3 t (V (t (p + 1) - 48))) 96 (p + 3) with
      | some x =>
        rw [e'] at e
        have : x = b := Option.some.inj e
        subst this
        exact pm_fd_in S _ 96 (p + 3) x K e'
      | none =>
        rw [e'] at e
        cases e'' : pm_fd t n (pm_P2 t (pm_lt r (t (p + 2)) (V (t (p + 1) - 48)))) 96 (p + 3) with
        | some x =>
          rw [e''] at e
          have : x = b := Option.some.inj e
          subst this
          exact pm_fd_in S _ 96 (p + 3) x K e''
        | none =>
          rw [e''] at e
          exact pm_fd_in S _ 96 (p + 3) b K e
    obtain ⟨n1, n2, n3, n4, n5⟩ := inb
    refine ⟨b, L + 1, w, lk ||| pm_bit (t (p + 1) - 48), O, M, upd H (L + 1) (if t (p + 2) = 63 then nI (t (p + 1) - 48) else H L), upd R (L + 1) (nI (pm_mt 123 125 t n p + 1)), ⟨n2, n3, ?_, i4, ?_⟩, by omega, fun post f h => ?_, yst⟩
    · refine pm_Ch_push (pm_Ch_congr L p (fun j hj => pk_un (by omega)) (fun j hj => pk_un (by omega)) i3) hp hb i2 n1 n4 n5 pk_us (fun z => ?_) (fun z => ?_)
      · rw [pk_us, if_pos z]
      · rw [pk_us, if_neg z, pk_un (by omega)]
    · intro l hl
      rcases Nat.lt_or_ge l (L + 1) with y | y
      · rw [pk_un (by omega)]
        exact pm_IvB i5 l (by omega)
      · have : l = L + 1 := by omega
        subst this
        rw [pk_us]
        by_cases z : t (p + 2) = 63
        · rw [if_pos z]
          exact Or.inr ⟨_, by omega, rfl, pm_orS _ _⟩
        · rw [if_neg z]
          exact pm_IvB i5 L (Nat.le_refl L)
    · refine pm_xO75 S hT hc hn hk hp i2 (fun _ => hv) ?_
      rw [hb]
      unfold wX_writeTemplate_75
      refine br_t rfl ?_
      refine pm_xEn S hT hc hn hr hp i2 hb hv (by omega) (fun y => ?_) (fun b' y => ?_)
      · rw [e] at y; exact nomatch y
      · rw [e] at y
        have : b = b' := Option.some.inj y
        subst this
        exact ⟨by omega, nm_r (nI_1 k) h⟩
/-- the number sign in the reference -/
theorem pm_yPS41 {post : SY → Prop} {w c : Nat} (S : pm_Snd t n) (hT : ∀ j, T j = nI (t j)) (hn : n ≤ 96) (hw : w < 60000) (hc1 : c < n) (hc2 : t c = 123) (hc3 : pm_st t c = 0) (h : post (nI r, nI n, ln, cs, lf, nI (w + (pm_nl (V (t (c + 1) - 48))).length), lk, T, V, Q, W, pm_ps (pm_nl (V (t (c + 1) - 48))) M w)) : wY_putSign_41 post (nI c) (nI r) (nI n) ln cs lf (nI w) lk T V Q W M := by
  obtain ⟨b1, b2, b3, b4, b5, b6⟩ := pm_brace S hc1 hc3 hc2
  unfold wY_putSign_41
  refine br_t (nI_pos' (by omega)) ?_
  rw [nI_1 c]
  refine pm_yTA hT hn (by omega) ?_
  refine nm_e ?_
  rw [pm_and3 b2 b3, nI_clamp (n := t (c + 1) - 48) (by omega)]
  exact ⟨vp_in_nI (by omega) (by decide), pm_yPN hw h⟩
theorem pm_yPS8 {post : SY → Prop} {w : Nat} (S : pm_Snd t n) (hT : ∀ j, T j = nI (t j)) (hc : ∀ j, t j < 65536) (hn : n ≤ 96) (hw : w < 60000) : ∀ l i k : Nat, i ≤ n → pm_Ch t n H R l i → k + l ≤ 5 → (H l = -1 → post (nI r, nI n, ln, cs, lf, nI (w + 1), lk, T, V, Q, W, pm_pt M w 35)) → (∀ a, a < 4 → H l = nI a → post (nI r, nI n, ln, cs, lf, nI (w + (pm_nl (V a)).length), lk, T, V, Q, W, pm_ps (pm_nl (V a)) M w)) → ∀ f, l < f → wY_putSign_8 post (nI r) (nI n) ln cs lf (nI w) lk T V Q W M f (pm_en (pm_ar t i)) (nI k) := by
  intro l
  induction l with
  | zero =>
    intro i k hi C hk h0 h1 f hf
    obtain ⟨f, rfl⟩ : ∃ x, f = x + 1 := ⟨f - 1, by omega⟩
    have an : pm_ar t i = none := pm_ar_none (fun j hj => by
      have := pm_SndI S (k := j) (by omega)
      have := C.1
      omega)
    have p41 : wY_putSign_41 post (-1) (nI r) (nI n) ln cs lf (nI w) lk T V Q W M := by
      unfold wY_putSign_41
      exact br_f (by decide) (pm_yPut (c := 35) (by omega) (h0 C.2))
    rw [an, wY_putSign_8]
    exact br_c (fun _ => p41) (fun _ => br_t (by decide) p41)
  | succ l ih =>
    intro i k hi C hk h0 h1 f hf
    obtain ⟨f, rfl⟩ : ∃ x, f = x + 1 := ⟨f - 1, by omega⟩
    obtain ⟨j0, c, j1, j2, j3, j4, j5, j6, j7, j8⟩ := C
    obtain ⟨b1, b2, b3, b4, b5, b6⟩ := pm_brace S j4 j3 j2
    have hc2 := hc (c + 2)
    rw [pm_ar_some j1, wY_putSign_8]
    refine pk_le 5 k (fun z => absurd z (by omega)) (fun _ => pk_lt c 0 (fun z => absurd z (by omega)) (fun _ => ?_))
    show wpY_textAt _ _ (nI c + 2)
    rw [show nI c + 2 = nI (c + 2) from nI_add c 2]
    refine pm_yTA hT hn b1 ?_
    refine pk_eq (t (c + 2)) 63 (fun z => ?_) (fun z => ?_)
    · exact pm_yPS41 S hT hn hw j4 j2 j3 (h1 _ (by omega) (j6 z))
    · refine pm_yAr hT hc (by omega) (nm_r (nI_1 k) ?_)
      exact ih c (k + 1) (by omega) j8 (by omega) (fun y => h0 (by rw [j7 z]; exact y)) (fun a a1 a2 => h1 a a1 (by rw [j7 z]; exact a2)) f (by omega)
theorem pm_yPS {post : SY → Prop} {w l p : Nat} (S : pm_Snd t n) (hT : ∀ j, T j = nI (t j)) (hc : ∀ j, t j < 65536) (hn : n ≤ 96) (hw : w < 60000) (hp : p ≤ n) (C : pm_Ch t n H R l p) (hl : l ≤ 4) (h0 : H l = -1 → post (nI r, nI n, ln, cs, lf, nI (w + 1), lk, T, V, Q, W, pm_pt M w 35)) (h1 : ∀ a, a < 4 → H l = nI a → post (nI r, nI n, ln, cs, lf, nI (w + (pm_nl (V a)).length), lk, T, V, Q, W, pm_ps (pm_nl (V a)) M w)) : wpY_putSign post (nI r, nI n, ln, cs, lf, nI w, lk, T, V, Q, W, M) (nI p) := by
  unfold wpY_putSign
  refine pm_yAr hT hc (by omega) ⟨6, ?_⟩
  exact pm_yPS8 S hT hc hn hw l p 0 hp C (by omega) h0 h1 6 (by omega)
/-- a plain character or a number sign -/
theorem pm_sChar {p k w L : Nat} (S : pm_Snd t n) (hT : ∀ j, T j = nI (t j)) (hc : ∀ j, t j < 65536) (hn : n ≤ 96) (hk : k < 96) (hw : w ≤ 11 * k) (I : pm_Iv t n p L w lk O M H R) (hp : p < n) (hb : t p ≠ 123) (h41 : t p ≠ 41) : pm_Nx t n r k p L w lb lk T V O H R M := by
  obtain ⟨i1, i2, i3, i4, i5⟩ := I
  obtain ⟨m1, m2, m3⟩ := pm_mess S hp i2 hb h41
  have lo := pm_Ch_op i3
  have hI := pm_SndI S i1
  have hcp := hc p
  have hin : vp_in (nI p) 96 := vp_in_nI (by omega) (by decide)
  have hcl : T (nI p).toNatClampNeg = nI (t p) := by rw [nI_clamp (by omega)]; exact hT p
  have c3 : pm_Ch t n H R L (p + 1) := pm_Ch_move i3 (by omega) m3 (fun x x1 x2 => by rw [show x = p by omega]; exact Int.le_refl _)
  have xo : ∀ (post : SX → Prop) (f : Nat), wX_writeCharacter_28 (fun u => match u with | (f_ruleSet, f_typed, f_written, f_lookedAtByLatest, f_level, f_lookedAt, a_template, a_values, a_output, a_hashArgument, a_resumeAt) => ∀ x1_32 : Int32, x1_32 = nI p + 1 → ∀ x2_33 : Int32, x2_33 = nI k + 1 → wX_writeTemplate_16 post f x1_32 x2_33 f_ruleSet f_typed f_written f_lookedAtByLatest f_level f_lookedAt a_template a_values a_output a_hashArgument a_resumeAt) (nI (t p)) (H L) (nI r) (nI n) (nI w) lb (nI L) lk T V O H R → wX_writeTemplate_16 post (f + 1) (nI p) (nI k) (nI r) (nI n) (nI w) lb (nI L) lk T V O H R := by
    intro post f h
    refine pm_xO75 S hT hc hn hk hp i2 (fun z => absurd z hb) ?_
    unfold wX_writeTemplate_75
    refine pk_eq (t p) 123 (fun z => absurd z hb) (fun _ => pk_eq (t p) 41 (fun z => absurd z h41) (fun _ => ?_))
    unfold wpX_writeCharacter
    refine pk_lt L 0 (fun z => absurd z (by omega)) (fun _ => pk_le 5 L (fun z => absurd z (by omega)) (fun _ => ⟨vp_in_nI (by omega) (by decide), ?_⟩))
    rw [nI_clamp (n := L) (by omega)]
    exact h
  by_cases z : t p = 35
  · rcases i5 L (Nat.le_refl L) with y | ⟨a, a1, a2, a3⟩
    · refine ⟨p + 1, L, w + 1, lk, pm_pt O w 35, pm_pt M w 35, H, R, ⟨by omega, m2, c3, pm_Eq_pt 35 i4, i5⟩, by omega, fun post f h => xo post f ?_, fun ln cs lf Q W post h => ?_⟩
      · unfold wX_writeCharacter_28
        rw [z]
        refine br_t rfl (br_t y ?_)
        unfold wX_writeCharacter_48
        exact pm_xPut (c := 35) (by omega) (by decide) (nm_r (nI_1 p) (nm_r (nI_1 k) h))
      · unfold wpY_step
        dsimp only
        rw [hcl, z]
        refine ⟨hin, br_f (by decide) ⟨hin, br_f (by decide) ⟨hin, br_t rfl ?_⟩⟩⟩
        rw [nI_1 p]
        exact pm_yPS S hT hc hn (by omega) i1 i3 (by omega) (fun _ => h) (fun a a1 a2 => absurd (a2.symm.trans y) (pm_nm1 (by omega)))
    · have len := pm_nl_len (V a)
      refine ⟨p + 1, L, w + (pm_nl (V a)).length, lk, pm_ps (pm_nl (V a)) O w, pm_ps (pm_nl (V a)) M w, H, R, ⟨by omega, m2, c3, pm_Eq_ps _ i4, i5⟩, by omega, fun post f h => xo post f ?_, fun ln cs lf Q W post h => ?_⟩
      · unfold wX_writeCharacter_28
        rw [z, a2]
        refine br_t rfl (br_f (pm_nm1 (by omega)) ?_)
        refine pm_xWV a1 (by omega) ?_
        rw [a3]
        exact nm_r (nI_1 p) (nm_r (nI_1 k) h)
      · unfold wpY_step
        dsimp only
        rw [hcl, z]
        refine ⟨hin, br_f (by decide) ⟨hin, br_f (by decide) ⟨hin, br_t rfl ?_⟩⟩⟩
        rw [nI_1 p]
        refine pm_yPS S hT hc hn (by omega) i1 i3 (by omega) (fun y => absurd (a2.symm.trans y) (pm_nm1 (by omega))) (fun b b1 b2 => ?_)
        have : a = b := (nI_eq (by omega) (by omega)).mp (a2.symm.trans b2)
        subst this
        exact h
  · refine ⟨p + 1, L, w + 1, lk, pm_pt O w (t p), pm_pt M w (t p), H, R, ⟨by omega, m2, c3, pm_Eq_pt (t p) i4, i5⟩, by omega, fun post f h => xo post f ?_, fun ln cs lf Q W post h => ?_⟩
    · unfold wX_writeCharacter_28
      refine pk_eq (t p) 35 (fun y => absurd y z) (fun _ => ?_)
      unfold wX_writeCharacter_48
      exact pm_xPut (by omega) hcp (nm_r (nI_1 p) (nm_r (nI_1 k) h))
    · unfold wpY_step
      dsimp only
      rw [hcl]
      refine ⟨hin, pk_eq (t p) 41 (fun y => absurd y h41) (fun _ => ⟨hin, pk_eq (t p) 123 (fun y => absurd y hb) (fun _ => ⟨hin, pk_eq (t p) 35 (fun y => absurd y z) (fun _ => ⟨hin, ?_⟩)⟩)⟩)⟩
      rw [nI_1 p]
      exact pm_yPut (by omega) h
theorem pm_sAny {p k w L : Nat} (S : pm_Snd t n) (hT : ∀ j, T j = nI (t j)) (hc : ∀ j, t j < 65536) (hn : n ≤ 96) (hr : r ≤ 2) (hk : k < 96) (hw : w ≤ 11 * k) (I : pm_Iv t n p L w lk O M H R) (hp : p < n) : pm_Nx t n r k p L w lb lk T V O H R M := by
  by_cases z : t p = 123
  · by_cases y : t (p + 2) = 125
    · exact pm_sVal S hT hc hn hk hw I hp z y
    · exact pm_sEnter S hT hc hn hr hk I hp z y
  · by_cases y : t p = 41
    · exact pm_sLeave S hT hc hn hk I hp y
    · exact pm_sChar S hT hc hn hk hw I hp z y
end
end
section
/-! the main loops, format, named, type: one lemma a side -/
section
variable {lb lv lk ln cs lf ct lo : Int32} {T V O H R Q W M : Nat → Int32} {t : Nat → Nat} {n r : Nat}
theorem pm_main (S : pm_Snd t n) (hT : ∀ j, T j = nI (t j)) (hc : ∀ j, t j < 65536) (hn : n ≤ 96) (hr : r ≤ 2) : ∀ (d k p L w : Nat) (lk : Int32) (O M H R : Nat → Int32), k + d = 96 → w ≤ 11 * k → pm_Iv t n p L w lk O M H R →
    ∃ (w' L' : Nat) (lk' : Int32) (O' M' H' R' : Nat → Int32), w' ≤ 1056 ∧ pm_Eq O' M' w'
      ∧ (∀ post : SX → Prop, post (nI r, nI n, nI w', lb, nI L', lk', T, V, O', H', R') → ∀ f, d < f → wX_writeTemplate_16 post f (nI p) (nI k) (nI r) (nI n) (nI w) lb (nI L) lk T V O H R)
      ∧ (∀ (ln cs lf : Int32) (Q W : Nat → Int32) (post : Int32 → SY → Prop), wY_format_50 post (nI r) (nI n) ln cs lf (nI w') lk' T V Q W M' → ∀ f, d < f → wY_format_24 post f (nI p) (nI k) (nI r) (nI n) ln cs lf (nI w) lk T V Q W M) := by
  intro d
  induction d with
  | zero =>
    intro k p L w lk O M H R hk hw I
    refine ⟨w, L, lk, O, M, H, R, by omega, I.2.2.2.1, fun post h f hf => ?_, fun ln cs lf Q W post h f hf => ?_⟩
    · obtain ⟨f, rfl⟩ : ∃ x, f = x + 1 := ⟨f - 1, by omega⟩
      rw [wX_writeTemplate_16]
      exact pk_le 96 k (fun _ => h) (fun z => absurd z (by omega))
    · obtain ⟨f, rfl⟩ : ∃ x, f = x + 1 := ⟨f - 1, by omega⟩
      rw [wY_format_24]
      exact pk_le 96 k (fun _ => h) (fun z => absurd z (by omega))
  | succ d ih =>
    intro k p L w lk O M H R hk hw I
    have hpn := I.1
    rcases Nat.lt_or_ge p n with hp | hp
    · obtain ⟨p', L', w', lk', O', M', H', R', I', w1, hX, hY⟩ := pm_sAny (lb := lb) (V := V) S hT hc hn hr (by omega : k < 96) hw I hp
      obtain ⟨w2, L2, lk2, O2, M2, H2, R2, b2, e2, hX2, hY2⟩ := ih (k + 1) p' L' w' lk' O' M' H' R' (by omega) (by omega) I'
      refine ⟨w2, L2, lk2, O2, M2, H2, R2, b2, e2, fun post h f hf => ?_, fun ln cs lf Q W post h f hf => ?_⟩
      · obtain ⟨f, rfl⟩ : ∃ x, f = x + 1 := ⟨f - 1, by omega⟩
        exact hX post f (hX2 post h f (by omega))
      · obtain ⟨f, rfl⟩ : ∃ x, f = x + 1 := ⟨f - 1, by omega⟩
        rw [wY_format_24]
        refine pk_le 96 k (fun z => absurd z (by omega)) (fun _ => pk_le n p (fun z => absurd z (by omega)) (fun _ => ?_))
        refine hY ln cs lf Q W _ ?_
        exact nm_r (nI_1 k) (hY2 ln cs lf Q W post h f (by omega))
    · refine ⟨w, L, lk, O, M, H, R, by omega, I.2.2.2.1, fun post h f hf => ?_, fun ln cs lf Q W post h f hf => ?_⟩
      · obtain ⟨f, rfl⟩ : ∃ x, f = x + 1 := ⟨f - 1, by omega⟩
        rw [wX_writeTemplate_16]
        exact pk_le 96 k (fun _ => h) (fun _ => pk_le n p (fun _ => h) (fun z => absurd z (by omega)))
      · obtain ⟨f, rfl⟩ : ∃ x, f = x + 1 := ⟨f - 1, by omega⟩
        rw [wY_format_24]
        exact pk_le 96 k (fun _ => h) (fun _ => pk_le n p (fun _ => h) (fun z => absurd z (by omega)))
theorem pm_yF77 {post : Int32 → SY → Prop} {w : Nat} {ru nn : Int32} (hw : w ≤ 120) (h : ∀ Q' : Nat → Int32, (∀ j, j < w → Q' j = M j) → post (nI w) (ru, nn, ln, lo, lf, nI w, lo, T, V, Q', W, M)) : ∀ (d i : Nat) (Q : Nat → Int32), i + d = w → (∀ j, j < i → Q j = M j) → ∀ f, d < f → wY_format_77 post ru nn ln cs lf (nI w) lo f (nI i) T V Q W M := by
  intro d
  induction d with
  | zero =>
    intro i Q hi hQ f hf
    obtain ⟨f, rfl⟩ : ∃ x, f = x + 1 := ⟨f - 1, by omega⟩
    rw [wY_format_77]
    exact pk_le w i (fun _ => h Q (fun j hj => hQ j (by omega))) (fun z => absurd z (by omega))
  | succ d ih =>
    intro i Q hi hQ f hf
    obtain ⟨f, rfl⟩ : ∃ x, f = x + 1 := ⟨f - 1, by omega⟩
    have hin : vp_in (nI i) 120 := vp_in_nI (by omega) (by decide)
    rw [wY_format_77]
    dsimp only
    rw [nI_clamp (n := i) (by omega)]
    refine pk_le w i (fun z => absurd z (by omega)) (fun _ => ⟨hin, hin, nm_e (nm_r (nI_1 i) ?_)⟩)
    refine ih (i + 1) _ (by omega) (fun j hj => ?_) f (by omega)
    by_cases z : j = i
    · subst z; rw [pk_us]
    · rw [pk_un z]; exact hQ j (by omega)
theorem pm_brc {t : Nat → Nat} {n p : Nat} (S : pm_Snd t n) (hp : p < n) (h : t p = 123) : pm_st t p = 0 := by
  have s := pm_step t p (pm_accS S.2 hp)
  unfold pm_le pm_pl pm_dg at s
  omega
def pm_na (t : Nat → Nat) : Nat → Nat → Int32 → Int32
  | 0, _, x => x
  | d + 1, p, x => if t p = 123 then pm_na t d (p + 1) (x ||| pm_bit (t (p + 1) - 48)) else pm_na t d (p + 1) x
theorem pm_xNa {post : Int32 → Prop} {rs wr : Int32} (S : pm_Snd t n) (hT : ∀ j, T j = nI (t j)) (hc : ∀ j, t j < 65536) (hn : n ≤ 96) : ∀ (d p : Nat) (x : Int32), p + d = n → post (pm_na t d p x) → ∀ f, d < f → wX_named_13 post rs (nI n) wr lb lv lk T V O H R f x (nI p) := by
  intro d
  induction d with
  | zero =>
    intro p x hp h f hf
    obtain ⟨f, rfl⟩ : ∃ x, f = x + 1 := ⟨f - 1, by omega⟩
    rw [wX_named_13]
    exact pk_le n p (fun _ => h) (fun z => absurd z (by omega))
  | succ d ih =>
    intro p x hp h f hf
    obtain ⟨f, rfl⟩ : ∃ x, f = x + 1 := ⟨f - 1, by omega⟩
    have hin : vp_in (nI p) 96 := vp_in_nI (by omega) (by decide)
    have hcl : T (nI p).toNatClampNeg = nI (t p) := by rw [nI_clamp (by omega)]; exact hT p
    have hcp := hc p
    rw [wX_named_13]
    dsimp only
    rw [hcl]
    rw [pm_na] at h
    refine pk_le n p (fun z => absurd z (by omega)) (fun _ => ⟨hin, pk_eq (t p) 123 (fun e => ?_) (fun e => ?_)⟩)
    · rw [if_pos e] at h
      obtain ⟨b1, b2, b3, b4, b5, b6⟩ := pm_brace S (by omega) (pm_brc S (by omega) e) e
      rw [nI_1 p]
      refine pm_xAA hT hn (by omega) b2 b3 (nm_e (nm_e ?_))
      exact ih (p + 1) _ (by omega) h f (by omega)
    · rw [if_neg e] at h
      exact nm_r (nI_1 p) (ih (p + 1) _ (by omega) h f (by omega))
theorem pm_yNa {post : Int32 → SY → Prop} {ru : Int32} (S : pm_Snd t n) (hT : ∀ j, T j = nI (t j)) (hc : ∀ j, t j < 65536) (hn : n ≤ 96) : ∀ (d p : Nat) (x : Int32), p + d = n → post (pm_na t d p x) (ru, nI n, ln, cs, lf, ct, lo, T, V, Q, W, M) → ∀ f, d < f → wY_named_13 post ru (nI n) ln cs lf ct lo T V Q W M f x (nI p) := by
  intro d
  induction d with
  | zero =>
    intro p x hp h f hf
    obtain ⟨f, rfl⟩ : ∃ x, f = x + 1 := ⟨f - 1, by omega⟩
    rw [wY_named_13]
    exact pk_le n p (fun _ => h) (fun z => absurd z (by omega))
  | succ d ih =>
    intro p x hp h f hf
    obtain ⟨f, rfl⟩ : ∃ x, f = x + 1 := ⟨f - 1, by omega⟩
    have hin : vp_in (nI p) 96 := vp_in_nI (by omega) (by decide)
    have hcl : T (nI p).toNatClampNeg = nI (t p) := by rw [nI_clamp (by omega)]; exact hT p
    have hcp := hc p
    rw [wY_named_13]
    dsimp only
    rw [hcl]
    rw [pm_na] at h
    refine pk_le n p (fun z => absurd z (by omega)) (fun _ => ⟨hin, pk_eq (t p) 123 (fun e => ?_) (fun e => ?_)⟩)
    · rw [if_pos e] at h
      obtain ⟨b1, b2, b3, b4, b5, b6⟩ := pm_brace S (by omega) (pm_brc S (by omega) e) e
      rw [nI_1 p]
      refine pm_yTA hT hn (by omega) ?_
      rw [pm_and3 b2 b3]
      exact nm_e (nm_e (ih (p + 1) _ (by omega) h f (by omega)))
    · rw [if_neg e] at h
      exact nm_r (nI_1 p) (ih (p + 1) _ (by omega) h f (by omega))
/-! type -/
abbrev pm_ok (c : Nat) : Prop := pm_pl c ∨ pm_mk c
theorem pm_xTy {post : Int32 → SX → Prop} {rs wr : Int32} {c : Nat} (hn : n ≤ 96) (hc : c < 65536) (hv : vp_nar .char (nI c) = nI c) (hF : n = 96 → post (-1) (rs, nI n, wr, lb, lv, lk, T, V, O, H, R)) (hB : n < 96 → ¬ pm_ok c → post (-2) (rs, nI n, wr, lb, lv, lk, T, V, O, H, R)) (hG : n < 96 → pm_ok c → post (nI (n + 1)) (rs, nI (n + 1), wr, lb, lv, lk, upd T n (nI c), V, O, H, R)) : wpX_type post (rs, nI n, wr, lb, lv, lk, T, V, O, H, R) (nI c) := by
  have g28 : n < 96 → pm_ok c → wX_type_28 post (nI c) rs (nI n) wr lb lv lk T V O H R := by
    intro h1 h2
    unfold wX_type_28
    rw [nI_clamp (n := n) (by omega), hv]
    exact ⟨vp_in_nI h1 (by decide), nm_e (nm_r (nI_1 n) (hG h1 h2))⟩
  unfold wpX_type
  refine pk_lt n 96 (fun h1 => ?_) (fun h1 => hF (by omega))
  refine pm_xPl hc (fun g => ?_) (fun g => ?_)
  · exact br_f (by decide) (g28 h1 (Or.inl g))
  · refine br_t rfl ?_
    refine pm_xMk hc (fun k => ?_) (fun k => ?_)
    · exact br_f (by decide) (g28 h1 (Or.inr k))
    · exact br_t rfl (hB h1 (fun z => z.elim g k))
theorem pm_yTy {post : Int32 → SY → Prop} {ru : Int32} {c : Nat} (hn : n ≤ 96) (hc : c < 65536) (hF : n = 96 → post (-1) (ru, nI n, ln, cs, lf, ct, lo, T, V, Q, W, M)) (hB : n < 96 → ¬ pm_ok c → post (-2) (ru, nI n, ln, cs, lf, ct, lo, T, V, Q, W, M)) (hG : n < 96 → pm_ok c → post (nI (n + 1)) (ru, nI (n + 1), ln, cs, lf, ct, lo, upd T n (nI c), V, Q, W, M)) : wpY_type post (ru, nI n, ln, cs, lf, ct, lo, T, V, Q, W, M) (nI c) := by
  have g80 : n < 96 → pm_ok c → wY_type_80 post (nI c) ru (nI n) ln cs lf ct lo T V Q W M := by
    intro h1 h2
    unfold wY_type_80
    rw [nI_clamp (n := n) (by omega)]
    exact ⟨vp_in_nI h1 (by decide), nm_e (nm_r (nI_1 n) (hG h1 h2))⟩
  have g59 : n < 96 → pm_mk c → wY_type_59 post (nI c) ru (nI n) ln cs lf ct lo T V Q W M := by
    intro h1 h2
    unfold wY_type_59 wY_type_64
    refine pm_yPl hc (fun g => ?_) (fun g => ?_)
    · exact br_f (by decide) (g80 h1 (Or.inl g))
    · exact br_t rfl (br_f (by decide) (g80 h1 (Or.inr h2)))
  unfold wpY_type
  refine pk_eq n 96 (fun e => hF e) (fun e => ?_)
  have h1 : n < 96 := by omega
  refine pk_eq c 35 (fun z => g59 h1 (by unfold pm_mk; omega)) (fun z1 => ?_)
  refine pk_eq c 123 (fun z => g59 h1 (by unfold pm_mk; omega)) (fun z2 => ?_)
  refine pk_eq c 125 (fun z => g59 h1 (by unfold pm_mk; omega)) (fun z3 => ?_)
  refine pk_eq c 40 (fun z => g59 h1 (by unfold pm_mk; omega)) (fun z4 => ?_)
  refine pk_eq c 41 (fun z => g59 h1 (by unfold pm_mk; omega)) (fun z5 => ?_)
  refine pk_eq c 63 (fun z => g59 h1 (by unfold pm_mk; omega)) (fun z6 => ?_)
  refine pk_eq c 58 (fun z => g59 h1 (by unfold pm_mk; omega)) (fun z7 => ?_)
  refine pk_eq c 61 (fun z => g59 h1 (by unfold pm_mk; omega)) (fun z8 => ?_)
  unfold wY_type_64
  refine pm_yPl hc (fun g => ?_) (fun g => ?_)
  · exact br_f (by decide) (g80 h1 (Or.inl g))
  · exact br_t rfl (br_t rfl (hB h1 (fun z => z.elim g (fun k => by unfold pm_mk at k; omega))))
end
end
section
/-- text, count, values, rules, result's length and what it consulted are the same on both sides; the result's characters agree below its length -/
def i_Rel (_ : Nat) (u : SX) (v : SY) : Prop :=
  ∃ (t : Nat → Nat) (n w r : Nat) (lb lv lk lf ct lo : Int32) (T V O H R Q W M : Nat → Int32), u = (nI r, nI n, nI w, lb, lv, lk, T, V, O, H, R) ∧ v = (nI r, nI n, nI w, lb, lf, ct, lo, T, V, Q, W, M) ∧ (∀ j, T j = nI (t j)) ∧ (∀ j, t j < 65536) ∧ n ≤ 96 ∧ w ≤ 120 ∧ r ≤ 2 ∧ ∀ j, j < w → O j = Q j
theorem i_up {k : Nat} {u : SX} {v : SY} (h : i_Rel k u v) : i_Rel (k + 3) u v := h
theorem pm_rel0 {r : Nat} (hr : r ≤ 2) (k : Nat) : i_Rel k (nI r, 0, 0, 0, 0, 0, (fun _ => 0), (fun _ => 0), (fun _ => 0), (fun _ => 0), (fun _ => 0)) (nI r, 0, 0, 0, 0, 0, 0, (fun _ => 0), (fun _ => 0), (fun _ => 0), (fun _ => 0), (fun _ => 0)) :=
  ⟨fun _ => 0, 0, 0, r, 0, 0, 0, 0, 0, 0, _, _, _, _, _, _, _, _, rfl, rfl, fun _ => rfl, fun _ => (by decide : 0 < 65536), by decide, by decide, hr, fun _ _ => rfl⟩
theorem i_vc0 (k0 : Int32) : wpX_init (fun u => wpY_init (fun v => i_Rel 1 u v) k0) k0 := by
  unfold wpX_init
  refine br_c (fun h0 => br_c (fun h2 => ?_) (fun h2 => ?_)) (fun h0 => ?_)
  · obtain ⟨r, hr, rfl⟩ := nI_of2 (x := k0) (M := 2) (n := 2) (by decide) (Int32.not_lt.mpr h0) h2
    unfold wX_init_60 wpY_init
    exact br_t h0 (br_t h2 (pm_rel0 hr 1))
  · unfold wX_init_60 wpY_init
    exact br_t h0 (br_f h2 (pm_rel0 (r := 2) (by decide) 1))
  · unfold wX_init_60 wpY_init
    exact br_f h0 (pm_rel0 (r := 0) (by decide) 1)
theorem i_vc_type {k : Nat} {u : SX} {v : SY} (I : i_Rel k u v) (hk : k + 3 ≤ 1537) (v1 : Int32) : wpX_type (fun r u' => wpY_type (fun r' v' => r' = r ∧ i_Rel (k + 3) u' v') v (lw_u16 v1)) u (lw_u16 v1) := by
  obtain ⟨t, n, w, r, lb, lv, lk, lf, ct, lo, T, V, O, H, R, Q, W, M, rfl, rfl, hT, hc, hn, hw, hr, hO⟩ := I
  obtain ⟨c, hc1, hu⟩ : ∃ c, c < 65536 ∧ lw_u16 v1 = nI c := ⟨_, Nat.mod_lt _ (by decide), pk_char v1⟩
  have hv : vp_nar .char (nI c) = nI c := by rw [← hu]; exact pk_vc v1
  rw [hu]
  refine pm_xTy hn hc1 hv (fun e => ?_) (fun e g => ?_) (fun e g => ?_)
  · refine pm_yTy hn hc1 (fun _ => ?_) (fun z _ => absurd z (by omega)) (fun z _ => absurd z (by omega))
    exact ⟨rfl, t, n, w, r, lb, lv, lk, lf, ct, lo, T, V, O, H, R, Q, W, M, rfl, rfl, hT, hc, hn, hw, hr, hO⟩
  · refine pm_yTy hn hc1 (fun z => absurd z (by omega)) (fun _ _ => ?_) (fun _ z => absurd z g)
    exact ⟨rfl, t, n, w, r, lb, lv, lk, lf, ct, lo, T, V, O, H, R, Q, W, M, rfl, rfl, hT, hc, hn, hw, hr, hO⟩
  · refine pm_yTy hn hc1 (fun z => absurd z (by omega)) (fun _ z => absurd g z) (fun _ _ => ?_)
    refine ⟨rfl, (fun j => if j = n then c else t j), n + 1, w, r, lb, lv, lk, lf, ct, lo, _, V, O, H, R, Q, W, M, rfl, rfl, fun j => ?_, fun j => ?_, by omega, hw, hr, hO⟩
    · by_cases z : j = n
      · subst z; rw [pk_us]; exact congrArg nI (if_pos rfl).symm
      · rw [pk_un z, hT j]; exact congrArg nI (if_neg z).symm
    · show (if j = n then c else t j) < 65536
      split
      · exact hc1
      · exact hc j
theorem i_vc_rub {k : Nat} {u : SX} {v : SY} (I : i_Rel k u v) (hk : k + 3 ≤ 1537) : wpX_rub (fun r u' => wpY_rub (fun r' v' => r' = r ∧ i_Rel (k + 3) u' v') v) u := by
  obtain ⟨t, n, w, r, lb, lv, lk, lf, ct, lo, T, V, O, H, R, Q, W, M, rfl, rfl, hT, hc, hn, hw, hr, hO⟩ := I
  cases n with
  | zero => exact br_t rfl (br_t rfl ⟨rfl, t, 0, w, r, lb, lv, lk, lf, ct, lo, T, V, O, H, R, Q, W, M, rfl, rfl, hT, hc, hn, hw, hr, hO⟩)
  | succ n =>
    have ne : ¬ nI (n + 1) = 0 := nI_ne0 (by omega) (by omega)
    exact br_f ne (nm_r (nI_pred n) (br_f ne (nm_r (nI_pred n) ⟨rfl, t, n, w, r, lb, lv, lk, lf, ct, lo, T, V, O, H, R, Q, W, M, rfl, rfl, hT, hc, by omega, hw, hr, hO⟩)))
theorem i_vc_wipe {k : Nat} {u : SX} {v : SY} (I : i_Rel k u v) (hk : k + 3 ≤ 1537) : wpX_wipe (fun r u' => wpY_wipe (fun r' v' => r' = r ∧ i_Rel (k + 3) u' v') v) u := by
  obtain ⟨t, n, w, r, lb, lv, lk, lf, ct, lo, T, V, O, H, R, Q, W, M, rfl, rfl, hT, hc, hn, hw, hr, hO⟩ := I
  exact ⟨rfl, t, 0, w, r, lb, lv, lk, lf, ct, lo, T, V, O, H, R, Q, W, M, rfl, rfl, hT, hc, by omega, hw, hr, hO⟩
theorem i_vc_sound {k : Nat} {u : SX} {v : SY} (I : i_Rel k u v) (hk : k + 3 ≤ 1537) : wpX_sound (fun r => wpY_sound (fun r' v' => r' = r ∧ i_Rel (k + 3) u v') v) u := by
  obtain ⟨t, n, w, r, lb, lv, lk, lf, ct, lo, T, V, O, H, R, Q, W, M, rfl, rfl, hT, hc, hn, hw, hr, hO⟩ := I
  refine pm_xSound hT hc hn (fun S => ?_) (fun S => ?_)
  · refine pm_ySound hT hc hn (fun _ lf' W' => ?_) (fun z => absurd S z)
    exact ⟨rfl, t, n, w, r, lb, lv, lk, lf', ct, lo, T, V, O, H, R, Q, W', M, rfl, rfl, hT, hc, hn, hw, hr, hO⟩
  · refine pm_ySound hT hc hn (fun z => absurd z S) (fun _ lf' W' => ?_)
    exact ⟨rfl, t, n, w, r, lb, lv, lk, lf', ct, lo, T, V, O, H, R, Q, W', M, rfl, rfl, hT, hc, hn, hw, hr, hO⟩
theorem i_vc_set {k : Nat} {u : SX} {v : SY} (I : i_Rel k u v) (hk : k + 3 ≤ 1537) (v1 : Int32) (v2 : Int32) : wpX_set (fun r u' => wpY_set (fun r' v' => r' = r ∧ i_Rel (k + 3) u' v') v v1 v2) u v1 v2 := by
  obtain ⟨t, n, w, r, lb, lv, lk, lf, ct, lo, T, V, O, H, R, Q, W, M, rfl, rfl, hT, hc, hn, hw, hr, hO⟩ := I
  by_cases h0 : v1 < 0
  · exact br_t h0 (br_t h0 ⟨rfl, t, n, w, r, lb, lv, lk, lf, ct, lo, T, V, O, H, R, Q, W, M, rfl, rfl, hT, hc, hn, hw, hr, hO⟩)
  · obtain ⟨a, ha, rfl⟩ := nI_of h0
    by_cases h4 : a < 4
    · have hin : vp_in (nI a) 4 := vp_in_nI h4 (by decide)
      refine br_f h0 (br_t (nI_lt (b := 4) h4 (by decide)) ⟨hin, nm_e ?_⟩)
      refine br_f h0 (br_t (nI_le (b := 3) (by omega) (by decide)) ⟨hin, nm_e ?_⟩)
      exact ⟨rfl, t, n, w, r, lb, lv, lk, lf, ct, lo, T, _, O, H, R, Q, W, M, rfl, rfl, hT, hc, hn, hw, hr, hO⟩
    · refine br_f h0 (br_f (nI_nlt (b := 4) (by omega) ha) ?_)
      refine br_f h0 (br_f (nI_ge (a := 3) (by omega) ha) ?_)
      exact ⟨rfl, t, n, w, r, lb, lv, lk, lf, ct, lo, T, V, O, H, R, Q, W, M, rfl, rfl, hT, hc, hn, hw, hr, hO⟩
theorem i_vc_format {k : Nat} {u : SX} {v : SY} (I : i_Rel k u v) (hk : k + 3 ≤ 1537) : wpX_format (fun r u' => wpY_format (fun r' v' => r' = r ∧ i_Rel (k + 3) u' v') v) u := by
  obtain ⟨t, n, w, r, lb, lv, lk, lf, ct, lo, T, V, O, H, R, Q, W, M, rfl, rfl, hT, hc, hn, hw, hr, hO⟩ := I
  unfold wpX_format
  refine pm_xSound hT hc hn (fun S => ?_) (fun S => ?_)
  · refine br_f (by decide) ?_
    unfold wpX_writeTemplate
    refine nm_e ⟨97, ?_⟩
    have Iv : pm_Iv t n 0 0 0 0 O M (upd H 0 (-1)) R := ⟨by omega, rfl, ⟨rfl, pk_us⟩, fun j hj => absurd hj (Nat.not_lt_zero j), fun l hl => Or.inl (by rw [show l = 0 by omega]; exact pk_us)⟩
    obtain ⟨w', L', lk', O', M', H', R', b1, b2, hX, hY⟩ := pm_main (lb := lb) (V := V) S hT hc hn hr 96 0 0 0 0 0 O M (upd H 0 (-1)) R (by omega) (by omega) Iv
    refine hX _ ?_ 97 (by omega)
    refine pk_le w' 120 (fun g => ?_) (fun g => ?_)
    · unfold wpY_format
      refine pm_ySound hT hc hn (fun _ lf' W' => br_f (by decide) ⟨97, hY _ _ lf' Q W' _ ?_ 97 (by omega)⟩) (fun z => absurd S z)
      unfold wY_format_50
      refine br_t (nI_le (b := 120) g (by decide)) ⟨w' + 1, pm_yF77 g (fun Q' hQ => ?_) w' 0 Q (by omega) (fun j hj => absurd hj (Nat.not_lt_zero j)) (w' + 1) (by omega)⟩
      exact ⟨rfl, t, n, w', r, lk', nI L', lk', lf', nI w', lk', T, V, O', H', R', Q', W', M', rfl, rfl, hT, hc, hn, g, hr, fun j hj => by rw [hQ j hj]; exact b2 j hj (by omega)⟩
    · unfold wpY_format
      refine pm_ySound hT hc hn (fun _ lf' W' => br_f (by decide) ⟨97, hY _ _ lf' Q W' _ ?_ 97 (by omega)⟩) (fun z => absurd S z)
      unfold wY_format_50
      refine br_f (nI_ge (a := 120) g (by omega)) ?_
      exact ⟨rfl, t, n, 0, r, lb, nI L', lk', lf', nI w', lk', T, V, O', H', R', Q, W', M', rfl, rfl, hT, hc, hn, by omega, hr, fun j hj => absurd hj (Nat.not_lt_zero j)⟩
  · refine br_t rfl ?_
    unfold wpY_format
    refine pm_ySound hT hc hn (fun z => absurd z S) (fun _ lf' W' => br_t rfl ?_)
    exact ⟨rfl, t, n, w, r, lb, lv, lk, lf', ct, lo, T, V, O, H, R, Q, W', M, rfl, rfl, hT, hc, hn, hw, hr, hO⟩
theorem i_vc_length {k : Nat} {u : SX} {v : SY} (I : i_Rel k u v) (hk : k + 3 ≤ 1537) : wpX_length (fun r => wpY_length (fun r' => r' = r ∧ i_Rel (k + 3) u v) v) u := by
  obtain ⟨t, n, w, r, lb, lv, lk, lf, ct, lo, T, V, O, H, R, Q, W, M, rfl, rfl, hT, hc, hn, hw, hr, hO⟩ := I
  exact ⟨rfl, t, n, w, r, lb, lv, lk, lf, ct, lo, T, V, O, H, R, Q, W, M, rfl, rfl, hT, hc, hn, hw, hr, hO⟩
theorem i_vc_charAt {k : Nat} {u : SX} {v : SY} (I : i_Rel k u v) (hk : k + 3 ≤ 1537) (v1 : Int32) : wpX_charAt (fun r => wpY_charAt (fun r' => r' = r ∧ i_Rel (k + 3) u v) v v1) u v1 := by
  obtain ⟨t, n, w, r, lb, lv, lk, lf, ct, lo, T, V, O, H, R, Q, W, M, rfl, rfl, hT, hc, hn, hw, hr, hO⟩ := I
  have J : i_Rel (k + 3) (nI r, nI n, nI w, lb, lv, lk, T, V, O, H, R) (nI r, nI n, nI w, lb, lf, ct, lo, T, V, Q, W, M) := ⟨t, n, w, r, lb, lv, lk, lf, ct, lo, T, V, O, H, R, Q, W, M, rfl, rfl, hT, hc, hn, hw, hr, hO⟩
  by_cases h0 : v1 < 0
  · exact br_t h0 (br_t h0 ⟨rfl, J⟩)
  · obtain ⟨a, ha, rfl⟩ := nI_of h0
    by_cases h4 : a < w
    · have hin : vp_in (nI a) 120 := vp_in_nI (by omega) (by decide)
      refine br_f h0 (br_t (nI_lt h4 (by omega)) ⟨hin, ?_⟩)
      refine br_f h0 (br_f (nI_ge h4 (by omega)) ⟨hin, ?_, J⟩)
      rw [nI_clamp ha]
      exact (hO a h4).symm
    · exact br_f h0 (br_f (nI_nlt (by omega) ha) (br_f h0 (br_t (nI_le (by omega) ha) ⟨rfl, J⟩)))
theorem i_vc_named {k : Nat} {u : SX} {v : SY} (I : i_Rel k u v) (hk : k + 3 ≤ 1537) : wpX_named (fun r => wpY_named (fun r' v' => r' = r ∧ i_Rel (k + 3) u v') v) u := by
  obtain ⟨t, n, w, r, lb, lv, lk, lf, ct, lo, T, V, O, H, R, Q, W, M, rfl, rfl, hT, hc, hn, hw, hr, hO⟩ := I
  unfold wpX_named
  refine pm_xSound hT hc hn (fun S => ?_) (fun S => ?_)
  · refine br_f (by decide) ⟨n + 1, pm_xNa S hT hc hn n 0 0 (by omega) ?_ (n + 1) (by omega)⟩
    unfold wpY_named
    refine pm_ySound hT hc hn (fun _ lf' W' => br_f (by decide) ⟨n + 1, pm_yNa S hT hc hn n 0 0 (by omega) ?_ (n + 1) (by omega)⟩) (fun z => absurd S z)
    exact ⟨rfl, t, n, w, r, lb, lv, lk, lf', ct, lo, T, V, O, H, R, Q, W', M, rfl, rfl, hT, hc, hn, hw, hr, hO⟩
  · refine br_t rfl ?_
    unfold wpY_named
    refine pm_ySound hT hc hn (fun z => absurd z S) (fun _ lf' W' => br_t rfl ?_)
    exact ⟨rfl, t, n, w, r, lb, lv, lk, lf', ct, lo, T, V, O, H, R, Q, W', M, rfl, rfl, hT, hc, hn, hw, hr, hO⟩
theorem i_vc_consulted {k : Nat} {u : SX} {v : SY} (I : i_Rel k u v) (hk : k + 3 ≤ 1537) : wpX_consulted (fun r => wpY_consulted (fun r' => r' = r ∧ i_Rel (k + 3) u v) v) u := by
  obtain ⟨t, n, w, r, lb, lv, lk, lf, ct, lo, T, V, O, H, R, Q, W, M, rfl, rfl, hT, hc, hn, hw, hr, hO⟩ := I
  exact ⟨rfl, t, n, w, r, lb, lv, lk, lf, ct, lo, T, V, O, H, R, Q, W, M, rfl, rfl, hT, hc, hn, hw, hr, hO⟩
end
