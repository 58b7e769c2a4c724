/-! the component's automaton as a pure picture over a text t : Nat → Nat; running sums of braces and of parentheses -/
def pm_od (a b c : Nat) : Int := if c = a then 1 else if c = b then -1 else 0
def pm_cn (a b : Nat) (t : Nat → Nat) : Nat → Int
  | 0 => 0
  | k + 1 => pm_cn a b t k + pm_od a b (t k)
abbrev pm_op (t : Nat → Nat) (k : Nat) : Int := pm_cn 123 125 t k
abbrev pm_pd (t : Nat → Nat) (k : Nat) : Int := pm_cn 40 41 t k
abbrev pm_le (c : Nat) : Prop := 97 ≤ c ∧ c ≤ 122
abbrev pm_dg (c : Nat) : Prop := 48 ≤ c ∧ c ≤ 57
abbrev pm_pl (c : Nat) : Prop := (97 ≤ c ∧ c ≤ 122) ∨ (48 ≤ c ∧ c ≤ 57) ∨ c = 32 ∨ c = 44 ∨ c = 46 ∨ c = 33 ∨ c = 45
def pm_ks (c : Nat) : Nat := if c = 61 then 5 else if 97 ≤ c ∧ c ≤ 122 then 6 else 7
def pm_sa (s c : Nat) (o : Int) : Nat :=
  if s = 0 then (if c = 123 then 1 else if c = 41 then (if 0 < o then 4 else 7) else if c = 35 ∨ pm_pl c then 0 else 7)
  else if s = 1 then (if 48 ≤ c ∧ c < 52 then 2 else 7)
  else if s = 2 then (if c = 125 then 0 else if c = 63 ∨ c = 58 then 3 else 7)
  else if s = 3 then pm_ks c
  else if s = 4 then (if c = 125 then 0 else pm_ks c)
  else if s = 5 then (if 48 ≤ c ∧ c ≤ 57 then 6 else 7)
  else if s = 6 then (if c = 40 then 0 else 7)
  else 7
def pm_st (t : Nat → Nat) : Nat → Nat
  | 0 => 0
  | k + 1 => pm_sa (pm_st t k) (t k) (pm_cn 123 125 t k)
theorem pm_od3 (a b c : Nat) (hab : a ≠ b) : (c = a → pm_od a b c = 1) ∧ (c = b → pm_od a b c = -1) ∧ (c ≠ a → c ≠ b → pm_od a b c = 0) := by
  unfold pm_od
  refine ⟨fun h => if_pos h, fun h => ?_, fun h1 h2 => ?_⟩
  · rw [if_neg (by omega), if_pos h]
  · rw [if_neg h1, if_neg h2]
theorem pm_cn3 (a b : Nat) (t : Nat → Nat) (k : Nat) (hab : a ≠ b) : (t k = a → pm_cn a b t (k + 1) = pm_cn a b t k + 1) ∧ (t k = b → pm_cn a b t (k + 1) = pm_cn a b t k - 1) ∧ (t k ≠ a → t k ≠ b → pm_cn a b t (k + 1) = pm_cn a b t k) := by
  have e : pm_cn a b t (k + 1) = pm_cn a b t k + pm_od a b (t k) := rfl
  have h := pm_od3 a b (t k) hab
  rw [e]
  refine ⟨fun z => ?_, fun z => ?_, fun z y => ?_⟩
  · have := h.1 z; omega
  · have := h.2.1 z; omega
  · have := h.2.2 z y; omega
theorem pm_sa_inv (s c : Nat) (o : Int) (h : pm_sa s c o ≠ 7) :
    (s = 0 ∧ c = 123 ∧ pm_sa s c o = 1) ∨ (s = 0 ∧ c = 41 ∧ 0 < o ∧ pm_sa s c o = 4) ∨ (s = 0 ∧ (c = 35 ∨ pm_pl c) ∧ pm_sa s c o = 0)
    ∨ (s = 1 ∧ 48 ≤ c ∧ c < 52 ∧ pm_sa s c o = 2) ∨ (s = 2 ∧ c = 125 ∧ pm_sa s c o = 0) ∨ (s = 2 ∧ (c = 63 ∨ c = 58) ∧ pm_sa s c o = 3)
    ∨ ((s = 3 ∨ s = 4) ∧ c = 61 ∧ pm_sa s c o = 5) ∨ ((s = 3 ∨ s = 4) ∧ pm_le c ∧ pm_sa s c o = 6) ∨ (s = 4 ∧ c = 125 ∧ pm_sa s c o = 0)
    ∨ (s = 5 ∧ pm_dg c ∧ pm_sa s c o = 6) ∨ (s = 6 ∧ c = 40 ∧ pm_sa s c o = 0) := by
  generalize hv : pm_sa s c o = v at *
  unfold pm_sa pm_ks at hv
  by_cases s0 : s = 0
  · rw [if_pos s0] at hv
    by_cases c1 : c = 123
    · rw [if_pos c1] at hv; exact Or.inl (⟨s0, c1, hv.symm⟩)
    rw [if_neg c1] at hv
    by_cases c2 : c = 41
    · rw [if_pos c2] at hv
      by_cases c3 : 0 < o
      · rw [if_pos c3] at hv; exact Or.inr (Or.inl (⟨s0, c2, c3, hv.symm⟩))
      · rw [if_neg c3] at hv; exact absurd hv.symm h
    rw [if_neg c2] at hv
    by_cases c4 : c = 35 ∨ pm_pl c
    · rw [if_pos c4] at hv; exact Or.inr (Or.inr (Or.inl (⟨s0, c4, hv.symm⟩)))
    · rw [if_neg c4] at hv; exact absurd hv.symm h
  rw [if_neg s0] at hv
  by_cases s1 : s = 1
  · rw [if_pos s1] at hv
    by_cases c1 : 48 ≤ c ∧ c < 52
    · rw [if_pos c1] at hv; exact Or.inr (Or.inr (Or.inr (Or.inl (⟨s1, c1.1, c1.2, hv.symm⟩))))
    · rw [if_neg c1] at hv; exact absurd hv.symm h
  rw [if_neg s1] at hv
  by_cases s2 : s = 2
  · rw [if_pos s2] at hv
    by_cases c1 : c = 125
    · rw [if_pos c1] at hv; exact Or.inr (Or.inr (Or.inr (Or.inr (Or.inl (⟨s2, c1, hv.symm⟩)))))
    rw [if_neg c1] at hv
    by_cases c2 : c = 63 ∨ c = 58
    · rw [if_pos c2] at hv; exact Or.inr (Or.inr (Or.inr (Or.inr (Or.inr (Or.inl (⟨s2, c2, hv.symm⟩))))))
    · rw [if_neg c2] at hv; exact absurd hv.symm h
  rw [if_neg s2] at hv
  by_cases s3 : s = 3
  · rw [if_pos s3] at hv
    by_cases c1 : c = 61
    · rw [if_pos c1] at hv; exact Or.inr (Or.inr (Or.inr (Or.inr (Or.inr (Or.inr (Or.inl (⟨Or.inl s3, c1, hv.symm⟩)))))))
    rw [if_neg c1] at hv
    by_cases c2 : 97 ≤ c ∧ c ≤ 122
    · rw [if_pos c2] at hv; exact Or.inr (Or.inr (Or.inr (Or.inr (Or.inr (Or.inr (Or.inr (Or.inl (⟨Or.inl s3, c2, hv.symm⟩))))))))
    · rw [if_neg c2] at hv; exact absurd hv.symm h
  rw [if_neg s3] at hv
  by_cases s4 : s = 4
  · rw [if_pos s4] at hv
    by_cases c0 : c = 125
    · rw [if_pos c0] at hv; exact Or.inr (Or.inr (Or.inr (Or.inr (Or.inr (Or.inr (Or.inr (Or.inr (Or.inl (⟨s4, c0, hv.symm⟩)))))))))
    rw [if_neg c0] at hv
    by_cases c1 : c = 61
    · rw [if_pos c1] at hv; exact Or.inr (Or.inr (Or.inr (Or.inr (Or.inr (Or.inr (Or.inl (⟨Or.inr s4, c1, hv.symm⟩)))))))
    rw [if_neg c1] at hv
    by_cases c2 : 97 ≤ c ∧ c ≤ 122
    · rw [if_pos c2] at hv; exact Or.inr (Or.inr (Or.inr (Or.inr (Or.inr (Or.inr (Or.inr (Or.inl (⟨Or.inr s4, c2, hv.symm⟩))))))))
    · rw [if_neg c2] at hv; exact absurd hv.symm h
  rw [if_neg s4] at hv
  by_cases s5 : s = 5
  · rw [if_pos s5] at hv
    by_cases c1 : 48 ≤ c ∧ c ≤ 57
    · rw [if_pos c1] at hv; exact Or.inr (Or.inr (Or.inr (Or.inr (Or.inr (Or.inr (Or.inr (Or.inr (Or.inr (Or.inl (⟨s5, c1, hv.symm⟩))))))))))
    · rw [if_neg c1] at hv; exact absurd hv.symm h
  rw [if_neg s5] at hv
  by_cases s6 : s = 6
  · rw [if_pos s6] at hv
    by_cases c1 : c = 40
    · rw [if_pos c1] at hv; exact Or.inr (Or.inr (Or.inr (Or.inr (Or.inr (Or.inr (Or.inr (Or.inr (Or.inr (Or.inr (⟨s6, c1, hv.symm⟩))))))))))
    · rw [if_neg c1] at hv; exact absurd hv.symm h
  rw [if_neg s6] at hv
  exact absurd hv.symm h
theorem pm_sa7 (c : Nat) (o : Int) : pm_sa 7 c o = 7 := rfl
theorem pm_st_s (t : Nat → Nat) (k : Nat) : pm_st t (k + 1) = pm_sa (pm_st t k) (t k) (pm_cn 123 125 t k) := rfl
theorem pm_stick (t : Nat → Nat) (k : Nat) (h : pm_st t k = 7) : ∀ d, pm_st t (k + d) = 7 := by
  intro d
  induction d with
  | zero => exact h
  | succ d ih => show pm_st t (k + d + 1) = 7; rw [pm_st_s, ih]; rfl
theorem pm_ne7 {t : Nat → Nat} {k m : Nat} (h : pm_st t m ≠ 7) (hk : k ≤ m) : pm_st t k ≠ 7 := by
  intro z
  have := pm_stick t k z (m - k)
  rw [show k + (m - k) = m by omega] at this
  exact h this
/-- one step that does not break: eleven ways -/
theorem pm_step (t : Nat → Nat) (k : Nat) (h : pm_st t (k + 1) ≠ 7) :
    (pm_st t k = 0 ∧ t k = 123 ∧ pm_st t (k + 1) = 1 ∧ pm_op t (k + 1) = pm_op t k + 1 ∧ pm_pd t (k + 1) = pm_pd t k)
    ∨ (pm_st t k = 0 ∧ t k = 41 ∧ 0 < pm_op t k ∧ pm_st t (k + 1) = 4 ∧ pm_op t (k + 1) = pm_op t k ∧ pm_pd t (k + 1) = pm_pd t k - 1)
    ∨ (pm_st t k = 0 ∧ (t k = 35 ∨ pm_pl (t k)) ∧ pm_st t (k + 1) = 0 ∧ pm_op t (k + 1) = pm_op t k ∧ pm_pd t (k + 1) = pm_pd t k)
    ∨ (pm_st t k = 1 ∧ 48 ≤ t k ∧ t k < 52 ∧ pm_st t (k + 1) = 2 ∧ pm_op t (k + 1) = pm_op t k ∧ pm_pd t (k + 1) = pm_pd t k)
    ∨ (pm_st t k = 2 ∧ t k = 125 ∧ pm_st t (k + 1) = 0 ∧ pm_op t (k + 1) = pm_op t k - 1 ∧ pm_pd t (k + 1) = pm_pd t k)
    ∨ (pm_st t k = 2 ∧ (t k = 63 ∨ t k = 58) ∧ pm_st t (k + 1) = 3 ∧ pm_op t (k + 1) = pm_op t k ∧ pm_pd t (k + 1) = pm_pd t k)
    ∨ ((pm_st t k = 3 ∨ pm_st t k = 4) ∧ t k = 61 ∧ pm_st t (k + 1) = 5 ∧ pm_op t (k + 1) = pm_op t k ∧ pm_pd t (k + 1) = pm_pd t k)
    ∨ ((pm_st t k = 3 ∨ pm_st t k = 4) ∧ pm_le (t k) ∧ pm_st t (k + 1) = 6 ∧ pm_op t (k + 1) = pm_op t k ∧ pm_pd t (k + 1) = pm_pd t k)
    ∨ (pm_st t k = 4 ∧ t k = 125 ∧ pm_st t (k + 1) = 0 ∧ pm_op t (k + 1) = pm_op t k - 1 ∧ pm_pd t (k + 1) = pm_pd t k)
    ∨ (pm_st t k = 5 ∧ pm_dg (t k) ∧ pm_st t (k + 1) = 6 ∧ pm_op t (k + 1) = pm_op t k ∧ pm_pd t (k + 1) = pm_pd t k)
    ∨ (pm_st t k = 6 ∧ t k = 40 ∧ pm_st t (k + 1) = 0 ∧ pm_op t (k + 1) = pm_op t k ∧ pm_pd t (k + 1) = pm_pd t k + 1) := by
  have i := pm_sa_inv (pm_st t k) (t k) (pm_cn 123 125 t k) (by rw [← pm_st_s]; exact h)
  rw [← pm_st_s] at i
  obtain ⟨o1, o2, o3⟩ := pm_cn3 123 125 t k (by decide)
  obtain ⟨q1, q2, q3⟩ := pm_cn3 40 41 t k (by decide)
  unfold pm_pl pm_le pm_dg at *
  unfold pm_op pm_pd
  generalize pm_cn 123 125 t (k + 1) = o' at *
  generalize pm_cn 40 41 t (k + 1) = q' at *
  generalize pm_cn 123 125 t k = o at *
  generalize pm_cn 40 41 t k = q at *
  generalize pm_st t (k + 1) = s' at *
  generalize pm_st t k = s at *
  generalize t k = c at *
  rcases i with i | i | i | i | i | i | i | i | i | i | i
  · have := o1 i.2.1; have := q3 (by omega) (by omega); exact Or.inl (by omega)
  · have := o3 (by omega) (by omega); have := q2 i.2.1; exact Or.inr (Or.inl (by omega))
  · have := o3 (by omega) (by omega); have := q3 (by omega) (by omega); exact Or.inr (Or.inr (Or.inl (by omega)))
  · have := o3 (by omega) (by omega); have := q3 (by omega) (by omega); exact Or.inr (Or.inr (Or.inr (Or.inl (by omega))))
  · have := o2 (by omega); have := q3 (by omega) (by omega); exact Or.inr (Or.inr (Or.inr (Or.inr (Or.inl (by omega)))))
  · have := o3 (by omega) (by omega); have := q3 (by omega) (by omega); exact Or.inr (Or.inr (Or.inr (Or.inr (Or.inr (Or.inl (by omega))))))
  · have := o3 (by omega) (by omega); have := q3 (by omega) (by omega); exact Or.inr (Or.inr (Or.inr (Or.inr (Or.inr (Or.inr (Or.inl (by omega)))))))
  · have := o3 (by omega) (by omega); have := q3 (by omega) (by omega); exact Or.inr (Or.inr (Or.inr (Or.inr (Or.inr (Or.inr (Or.inr (Or.inl (by omega))))))))
  · have := o2 (by omega); have := q3 (by omega) (by omega); exact Or.inr (Or.inr (Or.inr (Or.inr (Or.inr (Or.inr (Or.inr (Or.inr (Or.inl (by omega)))))))))
  · have := o3 (by omega) (by omega); have := q3 (by omega) (by omega); exact Or.inr (Or.inr (Or.inr (Or.inr (Or.inr (Or.inr (Or.inr (Or.inr (Or.inr (Or.inl (by omega))))))))))
  · have := o3 (by omega) (by omega); have := q1 (by omega); exact Or.inr (Or.inr (Or.inr (Or.inr (Or.inr (Or.inr (Or.inr (Or.inr (Or.inr (Or.inr (by omega))))))))))
/-- a run that hasn't broken: braces and parentheses go together -/
theorem pm_inv (t : Nat → Nat) : ∀ k, pm_st t k ≠ 7 → pm_st t k ≤ 6 ∧ 0 ≤ pm_op t k ∧ (pm_st t k ≠ 0 → 1 ≤ pm_op t k) ∧ (pm_st t k = 0 → pm_pd t k = pm_op t k) ∧ (pm_st t k ≠ 0 → pm_pd t k = pm_op t k - 1) := by
  intro k
  induction k with
  | zero => intro _; exact ⟨Nat.zero_le _, Int.le_refl _, fun h => absurd rfl h, fun _ => rfl, fun h => absurd rfl h⟩
  | succ k ih =>
    intro h
    have hk := ih (pm_ne7 h (Nat.le_succ k))
    have s := pm_step t k h
    rcases s with i | i | i | i | i | i | i | i | i | i | i <;> refine ⟨?_, ?_, ?_, ?_, ?_⟩ <;> omega
/-- braces move by one at most -/
theorem pm_cn1 (a b : Nat) (t : Nat → Nat) (k : Nat) (hab : a ≠ b) : pm_cn a b t k - 1 ≤ pm_cn a b t (k + 1) ∧ pm_cn a b t (k + 1) ≤ pm_cn a b t k + 1 := by
  obtain ⟨o1, o2, o3⟩ := pm_cn3 a b t k hab
  by_cases z : t k = a
  · have := o1 z; omega
  · by_cases y : t k = b
    · have := o2 y; omega
    · have := o3 z y; omega
theorem pm_cnB (a b : Nat) (t : Nat → Nat) (hab : a ≠ b) : ∀ k : Nat, -(k : Int) ≤ pm_cn a b t k ∧ pm_cn a b t k ≤ k := by
  intro k
  induction k with
  | zero => exact ⟨Int.le_refl _, Int.le_refl _⟩
  | succ k ih => have := pm_cn1 a b t k hab; omega
