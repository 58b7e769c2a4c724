/-! what is put: characters behind a count that may pass the end; a number's characters; letters -/
def pm_pt (g : Nat → Int32) (w c : Nat) : Nat → Int32 := if w < 120 then upd g w (nI c) else g
def pm_ps : List Nat → (Nat → Int32) → Nat → (Nat → Int32)
  | [], g, _ => g
  | c :: l, g, w => pm_ps l (pm_pt g w c) (w + 1)
theorem pm_ps_app : ∀ (l k : List Nat) (g : Nat → Int32) (w : Nat), pm_ps (l ++ k) g w = pm_ps k (pm_ps l g w) (w + l.length) := by
  intro l
  induction l with
  | nil => intro k g w; rfl
  | cons c l ih =>
    intro k g w
    show pm_ps (l ++ k) (pm_pt g w c) (w + 1) = pm_ps k (pm_ps l (pm_pt g w c) (w + 1)) (w + (l.length + 1))
    rw [ih, show w + 1 + l.length = w + (l.length + 1) by omega]
def pm_Eq (g h : Nat → Int32) (w : Nat) : Prop := ∀ j, j < w → j < 120 → g j = h j
theorem pm_Eq_pt {g h : Nat → Int32} {w : Nat} (c : Nat) (E : pm_Eq g h w) : pm_Eq (pm_pt g w c) (pm_pt h w c) (w + 1) := by
  intro j h1 h2
  unfold pm_pt
  by_cases z : w < 120
  · rw [if_pos z, if_pos z]
    by_cases y : j = w
    · subst y; rw [pk_us, pk_us]
    · rw [pk_un y, pk_un y]; exact E j (by omega) h2
  · rw [if_neg z, if_neg z]; exact E j (by omega) h2
theorem pm_Eq_ps : ∀ (l : List Nat) {g h : Nat → Int32} {w : Nat}, pm_Eq g h w → pm_Eq (pm_ps l g w) (pm_ps l h w) (w + l.length) := by
  intro l
  induction l with
  | nil => intro g h w E; exact E
  | cons c l ih =>
    intro g h w E
    have := ih (pm_Eq_pt c E)
    rw [show w + 1 + l.length = w + (c :: l).length by simp only [List.length_cons]; omega] at this
    exact this
def pm_dl (m : Nat) : Nat → List Nat
  | 0 => []
  | k + 1 => (if k = 0 ∨ 10 ^ k ≤ m then [48 + m / 10 ^ k % 10] else []) ++ pm_dl m k
theorem pm_dl_len (m : Nat) : ∀ k, (pm_dl m k).length ≤ k := by
  intro k
  induction k with
  | zero => exact Nat.le_refl _
  | succ k ih =>
    unfold pm_dl
    rw [List.length_append]
    split <;> simp only [List.length_cons, List.length_nil] <;> omega
def pm_nl (v : Int32) : List Nat := (if v < 0 then [45] else []) ++ pm_dl v.toInt.natAbs 10
theorem pm_nl_len (v : Int32) : (pm_nl v).length ≤ 11 := by
  have := pm_dl_len v.toInt.natAbs 10
  unfold pm_nl
  rw [List.length_append]
  split <;> simp only [List.length_cons, List.length_nil] <;> omega
def pm_un : Nat → Nat
  | 0 => 0
  | k + 1 => 10 ^ k
def pm_sc : Nat → Nat
  | 0 => 1
  | k + 1 => 10 ^ k
theorem pm_p10 (k : Nat) (h : k ≤ 9) : 1 ≤ 10 ^ k ∧ 10 ^ k ≤ 1000000000 :=
  ⟨Nat.pow_pos (by decide), Nat.pow_le_pow_right (n := 10) (by decide) h⟩
theorem pm_un_div (k : Nat) : pm_un (k + 1) / 10 = pm_un k := by
  cases k with
  | zero => rfl
  | succ k =>
    show 10 ^ (k + 1) / 10 = 10 ^ k
    rw [Nat.pow_succ]
    exact Nat.mul_div_cancel _ (by decide)
theorem pm_un_le (k : Nat) (h : k ≤ 10) : pm_un k ≤ 1000000000 := by
  cases k with
  | zero => exact Nat.zero_le _
  | succ k => exact (pm_p10 k (by omega)).2
theorem pm_sc_le (k : Nat) (h : k ≤ 10) : 1 ≤ pm_sc k ∧ pm_sc k ≤ 1000000000 := by
  cases k with
  | zero => exact ⟨Nat.le_refl _, by decide⟩
  | succ k => exact pm_p10 k (by omega)
theorem pm_un1 (k : Nat) : pm_un (k + 1) = 1 ↔ k = 0 := by
  constructor
  · intro h
    cases k with
    | zero => rfl
    | succ k =>
      have h : 10 ^ (k + 1) = 1 := h
      rw [Nat.pow_succ] at h
      have : 1 ≤ 10 ^ k := Nat.pow_pos (by decide)
      omega
  · intro h; subst h; rfl
theorem pm_begun (m k : Nat) : 10 ^ k ≤ m ↔ (10 ^ (k + 1) ≤ m ∨ 0 < m / 10 ^ k % 10) := by
  have p : 0 < 10 ^ k := Nat.pow_pos (by decide)
  have e1 : 10 ^ k ≤ m ↔ 1 ≤ m / 10 ^ k := by rw [Nat.le_div_iff_mul_le p, Nat.one_mul]
  have e2 : 10 ^ (k + 1) ≤ m ↔ 10 ≤ m / 10 ^ k := by rw [Nat.le_div_iff_mul_le p, Nat.pow_succ, Nat.mul_comm 10]
  rw [e1, e2]
  clear e1 e2
  generalize m / 10 ^ k = q
  omega
def pm_pL (r m : Nat) : Nat :=
  if r = 0 then (if m = 1 then 111 else 120)
  else if r = 1 then (if m % 10 = 1 ∧ m % 100 ≠ 11 then 111 else if 2 ≤ m % 10 ∧ m % 10 ≤ 4 ∧ (m % 100 < 12 ∨ 14 < m % 100) then 102 else 109)
  else if m = 0 then 122 else if m = 1 then 111 else if m = 2 then 116 else if 3 ≤ m % 100 ∧ m % 100 ≤ 10 then 102 else if 11 ≤ m % 100 then 109 else 120
/-- the absolute value of an int, as a long -/
theorem pm_absB (v : Int32) : v.toInt.natAbs ≤ 2147483648 := by
  have h1 := Int32.toInt_lt v
  have h2 := Int32.le_toInt v
  omega
theorem pm_ltZ (v : Int32) : v < 0 ↔ v.toInt < 0 := by
  rw [Int32.lt_iff_toInt_lt, show (0 : Int32).toInt = 0 from rfl]
theorem pm_absP (v : Int32) (h : ¬ v < 0) : v.toInt64 = lN v.toInt.natAbs := by
  rw [pm_ltZ] at h
  have b := pm_absB v
  apply Int64.toInt_inj.mp
  rw [pk_lT (by omega), Int32.toInt_toInt64]
  omega
theorem pm_absM (v : Int32) (h : v < 0) : -v.toInt64 = lN v.toInt.natAbs := by
  rw [pm_ltZ] at h
  have b := pm_absB v
  apply Int64.toInt_inj.mp
  rw [pk_lT (by omega), Int64.toInt_neg, Int32.toInt_toInt64]
  have : (-v.toInt).bmod (2 ^ 64) = -v.toInt := Int.bmod_eq_of_le (by omega) (by omega)
  rw [this]
  omega
theorem pm_lltZ (v : Int32) : v.toInt64 < 0 ↔ v < 0 := by
  rw [pm_ltZ, Int64.lt_iff_toInt_lt, Int32.toInt_toInt64, show (0 : Int64).toInt = 0 from rfl]
