/-! matching closers, the choice around a place, key places: running sums alone -/
def pm_mc (a b : Nat) (t : Nat → Nat) (s : Nat) : Nat → Nat → Nat
  | 0, k => k
  | d + 1, k => if pm_cn a b t (k + 1) = pm_cn a b t s then k else pm_mc a b t s d (k + 1)
def pm_mt (a b : Nat) (t : Nat → Nat) (n s : Nat) : Nat := pm_mc a b t s (n - s) s
theorem pm_mc_le (a b : Nat) (t : Nat → Nat) (s : Nat) : ∀ d k, k ≤ pm_mc a b t s d k ∧ pm_mc a b t s d k ≤ k + d := by
  intro d
  induction d with
  | zero => intro k; exact ⟨Nat.le_refl _, Nat.le_refl _⟩
  | succ d ih =>
    intro k
    unfold pm_mc
    have := ih (k + 1)
    split <;> omega
theorem pm_mt_le (a b : Nat) (t : Nat → Nat) {n s : Nat} (h : s ≤ n) : s ≤ pm_mt a b t n s ∧ pm_mt a b t n s ≤ n := by
  have := pm_mc_le a b t s (n - s) s
  unfold pm_mt
  omega
theorem pm_mc_ok (a b : Nat) (t : Nat → Nat) (hab : a ≠ b) (s n : Nat) (hn : pm_cn a b t n ≤ pm_cn a b t s) : ∀ d k, k + d = n → s < k → (∀ j, s < j → j ≤ k → pm_cn a b t s + 1 ≤ pm_cn a b t j) → ∃ f, pm_mc a b t s d k = f ∧ s < f ∧ f < n ∧ pm_cn a b t (f + 1) = pm_cn a b t s ∧ t f = b ∧ ∀ j, s < j → j ≤ f → pm_cn a b t s + 1 ≤ pm_cn a b t j := by
  intro d
  induction d with
  | zero =>
    intro k hk hs hj
    have := hj k hs (Nat.le_refl k)
    rw [show k = n by omega] at this
    omega
  | succ d ih =>
    intro k hk hs hj
    have c3 := pm_cn3 a b t k hab
    have c1 := hj k hs (Nat.le_refl k)
    by_cases z : pm_cn a b t (k + 1) = pm_cn a b t s
    · refine ⟨k, if_pos z, hs, by omega, z, ?_, hj⟩
      by_cases y : t k = b
      · exact y
      · by_cases x : t k = a
        · have := c3.1 x; omega
        · have := c3.2.2 x y; omega
    · have c2 := pm_cn1 a b t k hab
      obtain ⟨f, f1, f2⟩ := ih (k + 1) (by omega) (by omega) (fun j j1 j2 => by
        rcases Nat.lt_or_ge j (k + 1) with q | q
        · exact hj j j1 (by omega)
        · rw [show j = k + 1 by omega]; omega)
      refine ⟨f, ?_, f2⟩
      unfold pm_mc
      rw [if_neg z]
      exact f1
theorem pm_mt_ok {a b : Nat} {t : Nat → Nat} (hab : a ≠ b) {s n : Nat} (hs : s < n) (h : t s = a) (hn : pm_cn a b t n ≤ pm_cn a b t s) : s < pm_mt a b t n s ∧ pm_mt a b t n s < n ∧ pm_cn a b t (pm_mt a b t n s + 1) = pm_cn a b t s ∧ t (pm_mt a b t n s) = b ∧ ∀ j, s < j → j ≤ pm_mt a b t n s → pm_cn a b t s + 1 ≤ pm_cn a b t j := by
  have c := (pm_cn3 a b t s hab).1 h
  obtain ⟨f, f1, f2⟩ := pm_mc_ok a b t hab s n hn (n - (s + 1)) (s + 1) (by omega) (by omega) (fun j j1 j2 => by rw [show j = s + 1 by omega]; omega)
  have e : pm_mt a b t n s = f := by
    unfold pm_mt
    rw [show n - s = (n - (s + 1)) + 1 by omega]
    unfold pm_mc
    rw [if_neg (by omega)]
    exact f1
  rw [e]
  exact f2
def pm_ac (t : Nat → Nat) (i : Nat) : Nat → Option Nat
  | 0 => none
  | k + 1 => if pm_op t k = pm_op t i - 1 then some k else pm_ac t i k
def pm_ar (t : Nat → Nat) (i : Nat) : Option Nat := pm_ac t i i
def pm_Ar (t : Nat → Nat) (i c : Nat) : Prop := c < i ∧ pm_op t c = pm_op t i - 1 ∧ ∀ k, c < k → k < i → pm_op t i ≤ pm_op t k
theorem pm_ar_some {t : Nat → Nat} {i c : Nat} (A : pm_Ar t i c) : pm_ar t i = some c := by
  obtain ⟨h1, h2, h3⟩ := A
  have q : ∀ d, c + 1 + d ≤ i → pm_ac t i (c + 1 + d) = some c := by
    intro d
    induction d with
    | zero => intro _; exact if_pos h2
    | succ d ih =>
      intro hd
      have := h3 (c + 1 + d) (by omega) (by omega)
      show pm_ac t i (c + 1 + d + 1) = some c
      unfold pm_ac
      rw [if_neg (by omega)]
      exact ih (by omega)
  have := q (i - (c + 1)) (by omega)
  rw [show c + 1 + (i - (c + 1)) = i by omega] at this
  exact this
theorem pm_ar_none {t : Nat → Nat} {i : Nat} (h : ∀ k, k < i → pm_op t k ≠ pm_op t i - 1) : pm_ar t i = none := by
  have q : ∀ k, k ≤ i → pm_ac t i k = none := by
    intro k
    induction k with
    | zero => intro _; rfl
    | succ k ih =>
      intro hk
      unfold pm_ac
      rw [if_neg (h k (by omega))]
      exact ih (by omega)
  exact q i (Nat.le_refl i)
/-- the choices entered at p, and what the component's stack holds of them -/
def pm_Ch (t : Nat → Nat) (n : Nat) (H R : Nat → Int32) : Nat → Nat → Prop
  | 0, p => pm_op t p = 0 ∧ H 0 = -1
  | l + 1, p => pm_op t p = l + 1 ∧ ∃ c, pm_Ar t p c ∧ t c = 123 ∧ pm_st t c = 0 ∧ c < n ∧ R (l + 1) = nI (pm_mt 123 125 t n c + 1) ∧ (t (c + 2) = 63 → H (l + 1) = nI (t (c + 1) - 48)) ∧ (t (c + 2) ≠ 63 → H (l + 1) = H l) ∧ pm_Ch t n H R l c
theorem pm_Ch_op {t : Nat → Nat} {n : Nat} {H R : Nat → Int32} {l p : Nat} (h : pm_Ch t n H R l p) : pm_op t p = l := by
  cases l with
  | zero => exact h.1
  | succ l => exact h.1
theorem pm_Ch_congr {t : Nat → Nat} {n : Nat} {H R H' R' : Nat → Int32} : ∀ l p, (∀ j, j ≤ l → H' j = H j) → (∀ j, j ≤ l → R' j = R j) → pm_Ch t n H R l p → pm_Ch t n H' R' l p := by
  intro l
  induction l with
  | zero => intro p h1 _ h; exact ⟨h.1, by rw [h1 0 (Nat.le_refl 0)]; exact h.2⟩
  | succ l ih =>
    intro p h1 h2 ⟨o, c, c1, c2, c3, c4, c5, c6, c7, c8⟩
    refine ⟨o, c, c1, c2, c3, c4, ?_, ?_, ?_, ih c (fun j hj => h1 j (by omega)) (fun j hj => h2 j (by omega)) c8⟩
    · rw [h2 _ (Nat.le_refl _)]; exact c5
    · rw [h1 _ (Nat.le_refl _)]; exact c6
    · rw [h1 _ (Nat.le_refl _), h1 l (by omega)]; exact c7
theorem pm_Ch_move {t : Nat → Nat} {n : Nat} {H R : Nat → Int32} {l p q : Nat} (h : pm_Ch t n H R l p) (hq : p < q) (ho : pm_op t q = pm_op t p) (hk : ∀ k, p ≤ k → k < q → pm_op t p ≤ pm_op t k) : pm_Ch t n H R l q := by
  cases l with
  | zero => exact ⟨by rw [ho]; exact h.1, h.2⟩
  | succ l =>
    obtain ⟨o, c, ⟨a1, a2, a3⟩, c2⟩ := h
    refine ⟨by rw [ho]; exact o, c, ⟨by omega, by omega, fun k k1 k2 => ?_⟩, c2⟩
    rcases Nat.lt_or_ge k p with x | x
    · rw [ho]; exact a3 k k1 x
    · rw [ho]; exact hk k x k2
theorem pm_Ch_push {t : Nat → Nat} {n : Nat} {H R : Nat → Int32} {l p b : Nat} (h : pm_Ch t n H R l p) (hn : p < n) (hp : t p = 123) (hs : pm_st t p = 0) (hb : p < b) (ho : pm_op t b = pm_op t p + 1) (hk : ∀ k, p < k → k ≤ b → pm_op t p + 1 ≤ pm_op t k) (hR : R (l + 1) = nI (pm_mt 123 125 t n p + 1)) (h1 : t (p + 2) = 63 → H (l + 1) = nI (t (p + 1) - 48)) (h2 : t (p + 2) ≠ 63 → H (l + 1) = H l) : pm_Ch t n H R (l + 1) b := by
  have o := pm_Ch_op h
  exact ⟨by omega, p, ⟨hb, by omega, fun k k1 k2 => by have := hk k k1 (by omega); omega⟩, hp, hs, hn, hR, h1, h2, h⟩
/-- a sound text's facts at one place -/
theorem pm_SndI {t : Nat → Nat} {n k : Nat} (S : pm_Snd t n) (h : k ≤ n) : pm_st t k ≠ 7 ∧ pm_st t k ≤ 6 ∧ 0 ≤ pm_op t k ∧ pm_op t k ≤ 4 ∧ (pm_st t k ≠ 0 → 1 ≤ pm_op t k) ∧ (pm_st t k = 0 → pm_pd t k = pm_op t k) ∧ (pm_st t k ≠ 0 → pm_pd t k = pm_op t k - 1) := by
  have a := pm_accI S.2 h
  have b := pm_inv t k a
  exact ⟨a, b.1, b.2.1, S.1 k h, b.2.2⟩
theorem pm_SndN {t : Nat → Nat} {n : Nat} (S : pm_Snd t n) : pm_op t n = 0 ∧ pm_pd t n = 0 := by
  have := pm_SndI S (Nat.le_refl n)
  have a := S.2.1
  have b := S.2.2
  omega
theorem pm_brace {t : Nat → Nat} {n p : Nat} (S : pm_Snd t n) (hp : p < n) (hs : pm_st t p = 0) (hc : t p = 123) : p + 2 < n ∧ 48 ≤ t (p + 1) ∧ t (p + 1) ≤ 51 ∧ pm_op t (p + 1) = pm_op t p + 1 ∧ pm_op t (p + 2) = pm_op t p + 1 ∧ ((t (p + 2) = 125 ∧ pm_st t (p + 3) = 0 ∧ pm_op t (p + 3) = pm_op t p) ∨ ((t (p + 2) = 63 ∨ t (p + 2) = 58) ∧ p + 3 < n ∧ pm_st t (p + 3) = 3 ∧ pm_op t (p + 3) = pm_op t p + 1)) := by
  have A := S.2
  have s := pm_step t p (pm_accS A hp)
  have s1 : pm_st t (p + 1) = 1 ∧ pm_op t (p + 1) = pm_op t p + 1 := by
    unfold pm_le pm_pl pm_dg at s
    omega
  have l1 := pm_accL A (k := p + 1) (by omega) (by omega)
  have s' := pm_step t (p + 1) (pm_accS A l1)
  rw [show p + 1 + 1 = p + 2 by omega] at s'
  have s2 : pm_st t (p + 2) = 2 ∧ 48 ≤ t (p + 1) ∧ t (p + 1) < 52 ∧ pm_op t (p + 2) = pm_op t p + 1 := by
    unfold pm_le pm_pl pm_dg at s'
    omega
  have l2 := pm_accL A (k := p + 2) (by omega) (by omega)
  have s'' := pm_step t (p + 2) (pm_accS A l2)
  rw [show p + 2 + 1 = p + 3 by omega] at s''
  have s3 : (t (p + 2) = 125 ∧ pm_st t (p + 3) = 0 ∧ pm_op t (p + 3) = pm_op t p) ∨ ((t (p + 2) = 63 ∨ t (p + 2) = 58) ∧ pm_st t (p + 3) = 3 ∧ pm_op t (p + 3) = pm_op t p + 1) := by
    unfold pm_le pm_pl pm_dg at s''
    omega
  refine ⟨l2, s2.2.1, by omega, s1.2, s2.2.2.2, ?_⟩
  rcases s3 with s3 | s3
  · exact Or.inl s3
  · exact Or.inr ⟨s3.1, pm_accL A (by omega) (by omega), s3.2⟩
theorem pm_mess {t : Nat → Nat} {n p : Nat} (S : pm_Snd t n) (hp : p < n) (hs : pm_st t p = 0) (h1 : t p ≠ 123) (h2 : t p ≠ 41) : (t p = 35 ∨ pm_pl (t p)) ∧ pm_st t (p + 1) = 0 ∧ pm_op t (p + 1) = pm_op t p := by
  have s := pm_step t p (pm_accS S.2 hp)
  unfold pm_le pm_pl pm_dg at *
  omega
theorem pm_paren {t : Nat → Nat} {n p : Nat} (S : pm_Snd t n) (hp : p < n) (hs : pm_st t p = 0) (h2 : t p = 41) : 0 < pm_op t p := by
  have s := pm_step t p (pm_accS S.2 hp)
  unfold pm_le pm_pl pm_dg at *
  omega
/-- the end of a choice -/
theorem pm_cend {t : Nat → Nat} {n p : Nat} (S : pm_Snd t n) (hp : p < n) (hc : t p = 123) : p < pm_mt 123 125 t n p ∧ pm_mt 123 125 t n p < n ∧ pm_op t (pm_mt 123 125 t n p + 1) = pm_op t p ∧ pm_st t (pm_mt 123 125 t n p + 1) = 0 ∧ ∀ j, p < j → j ≤ pm_mt 123 125 t n p → pm_op t p + 1 ≤ pm_op t j := by
  have hn := pm_SndN S
  have i := pm_SndI S (Nat.le_of_lt hp)
  obtain ⟨a, b, c, d, e⟩ := pm_mt_ok (a := 123) (b := 125) (t := t) (by decide) hp hc (by unfold pm_op at hn i; omega)
  refine ⟨a, b, c, ?_, e⟩
  have s := pm_step t (pm_mt 123 125 t n p) (pm_accS S.2 b)
  generalize pm_mt 123 125 t n p = f at *
  unfold pm_le pm_pl pm_dg at s
  omega
/-! key places of the choice at p -/
def pm_pn (t : Nat → Nat) (q : Nat) : Nat := if t q = 61 then q + 2 else q + 1
def pm_Ky (t : Nat → Nat) (n p q : Nat) : Prop := p < q ∧ q < n ∧ (pm_st t q = 3 ∨ pm_st t q = 4) ∧ pm_op t q = pm_op t p + 1 ∧ ∀ k, p < k → k ≤ q → pm_op t p + 1 ≤ pm_op t k
def pm_In (t : Nat → Nat) (n p b : Nat) : Prop := p < b ∧ b ≤ n ∧ pm_st t b = 0 ∧ pm_op t b = pm_op t p + 1 ∧ ∀ k, p < k → k ≤ b → pm_op t p + 1 ≤ pm_op t k
theorem pm_Ky0 {t : Nat → Nat} {n p : Nat} (S : pm_Snd t n) (hp : p < n) (hs : pm_st t p = 0) (hc : t p = 123) (hv : t (p + 2) ≠ 125) : pm_Ky t n p (p + 3) := by
  obtain ⟨a, b, c, d, e, f⟩ := pm_brace S hp hs hc
  rcases f with f | f
  · exact absurd f.1 hv
  · refine ⟨by omega, f.2.1, Or.inl f.2.2.1, f.2.2.2, fun k k1 k2 => ?_⟩
    rcases (by omega : k = p + 1 ∨ k = p + 2 ∨ k = p + 3) with x | x | x <;> rw [x] <;> omega
theorem pm_KyO {t : Nat → Nat} {n p q : Nat} (S : pm_Snd t n) (K : pm_Ky t n p q) (hv : t q ≠ 125) : pm_pn t q < n ∧ q < pm_pn t q ∧ t (pm_pn t q) = 40 ∧ (t q = 61 → pm_dg (t (q + 1)) ∧ q + 1 < n) ∧ (t q ≠ 61 → pm_le (t q)) ∧ pm_st t (pm_pn t q) = 6 ∧ pm_In t n p (pm_pn t q + 1) := by
  obtain ⟨k1, k2, k3, k4, k5⟩ := K
  have A := S.2
  have s := pm_step t q (pm_accS A k2)
  by_cases z : t q = 61
  · have e : pm_pn t q = q + 2 := if_pos z
    have s1 : pm_st t (q + 1) = 5 ∧ pm_op t (q + 1) = pm_op t q := by
      unfold pm_le pm_pl pm_dg at s
      omega
    have l1 := pm_accL A (k := q + 1) (by omega) (by omega)
    have s' := pm_step t (q + 1) (pm_accS A l1)
    rw [show q + 1 + 1 = q + 2 by omega] at s'
    have s2 : pm_dg (t (q + 1)) ∧ pm_st t (q + 2) = 6 ∧ pm_op t (q + 2) = pm_op t q := by
      unfold pm_le pm_pl pm_dg at *
      omega
    have l2 := pm_accL A (k := q + 2) (by omega) (by omega)
    have s'' := pm_step t (q + 2) (pm_accS A l2)
    rw [show q + 2 + 1 = q + 3 by omega] at s''
    have s3 : t (q + 2) = 40 ∧ pm_st t (q + 3) = 0 ∧ pm_op t (q + 3) = pm_op t q := by
      unfold pm_le pm_pl pm_dg at *
      omega
    rw [e]
    refine ⟨l2, by omega, s3.1, fun _ => ⟨s2.1, l1⟩, fun y => absurd z y, s2.2.1, by omega, by omega, s3.2.1, by show pm_op t (q + 3) = _; omega, fun k x y => ?_⟩
    rcases (by omega : k ≤ q ∨ k = q + 1 ∨ k = q + 2 ∨ k = q + 3) with h | h | h | h
    · exact k5 k x h
    · rw [h]; omega
    · rw [h]; omega
    · rw [h]; omega
  · have e : pm_pn t q = q + 1 := if_neg z
    have s1 : pm_le (t q) ∧ pm_st t (q + 1) = 6 ∧ pm_op t (q + 1) = pm_op t q := by
      unfold pm_le pm_pl pm_dg at *
      omega
    have l1 := pm_accL A (k := q + 1) (by omega) (by omega)
    have s' := pm_step t (q + 1) (pm_accS A l1)
    rw [show q + 1 + 1 = q + 2 by omega] at s'
    have s2 : t (q + 1) = 40 ∧ pm_st t (q + 2) = 0 ∧ pm_op t (q + 2) = pm_op t q := by
      unfold pm_le pm_pl pm_dg at *
      omega
    rw [e]
    refine ⟨l1, by omega, s2.1, fun y => absurd y z, fun _ => s1.1, s1.2.1, by omega, by omega, s2.2.1, by show pm_op t (q + 2) = _; omega, fun k x y => ?_⟩
    rcases (by omega : k ≤ q ∨ k = q + 1 ∨ k = q + 2) with h | h | h
    · exact k5 k x h
    · rw [h]; omega
    · rw [h]; omega
theorem pm_KyN {t : Nat → Nat} {n p q : Nat} (S : pm_Snd t n) (K : pm_Ky t n p q) (hv : t q ≠ 125) : pm_pn t q < pm_mt 40 41 t n (pm_pn t q) ∧ pm_mt 40 41 t n (pm_pn t q) < n ∧ pm_Ky t n p (pm_mt 40 41 t n (pm_pn t q) + 1) := by
  obtain ⟨o1, o2, o3, o4, o5, o6, p1, p2, p3, p4, p5⟩ := pm_KyO S K hv
  have hn := pm_SndN S
  have i := pm_SndI S (Nat.le_of_lt o1)
  obtain ⟨a, b, c, d, e⟩ := pm_mt_ok (a := 40) (b := 41) (t := t) (by decide) o1 o3 (by
    have : pm_cn 40 41 t n = 0 := hn.2
    have : pm_pd t (pm_pn t q) = pm_op t (pm_pn t q) - 1 := i.2.2.2.2.2.2 (by omega)
    unfold pm_pd at this
    omega)
  have s := pm_step t (pm_mt 40 41 t n (pm_pn t q)) (pm_accS S.2 b)
  have oo : pm_op t (pm_pn t q) = pm_op t p + 1 := by
    have z := (pm_cn3 123 125 t (pm_pn t q) (by decide)).2.2 (by omega) (by omega)
    unfold pm_op at *
    omega
  have pp : pm_pd t (pm_pn t q) = pm_op t p := by
    have : pm_pd t (pm_pn t q) = pm_op t (pm_pn t q) - 1 := i.2.2.2.2.2.2 (by omega)
    omega
  have e' : ∀ j, pm_pn t q < j → j ≤ pm_mt 40 41 t n (pm_pn t q) → pm_op t p + 1 ≤ pm_pd t j := fun j x y => by
    have := e j x y
    unfold pm_pd at *
    omega
  have c' : pm_pd t (pm_mt 40 41 t n (pm_pn t q) + 1) = pm_op t p := by
    unfold pm_pd at *
    omega
  generalize pm_mt 40 41 t n (pm_pn t q) = f at *
  generalize pm_pn t q = o at *
  have s4 : pm_st t (f + 1) = 4 := by
    unfold pm_le pm_pl pm_dg at s
    omega
  have i2 := pm_SndI S (k := f + 1) (by omega)
  have l := pm_accL S.2 (k := f + 1) (by omega) (by omega)
  have of : pm_op t (f + 1) = pm_op t p + 1 := by
    have := i2.2.2.2.2.2.2 (by omega)
    omega
  refine ⟨a, b, by omega, l, Or.inr s4, of, fun k x y => ?_⟩
  rcases Nat.lt_or_ge o k with h | h
  · rcases Nat.lt_or_ge f k with g | g
    · rw [show k = f + 1 by omega]; omega
    · have w := e' k h g
      have i3 := pm_SndI S (k := k) (by omega)
      omega
  · exact p5 k x (by omega)
/-! the first branch with a property; the component's walk with ranks -/
def pm_fd (t : Nat → Nat) (n : Nat) (P : Nat → Bool) : Nat → Nat → Option Nat
  | 0, _ => none
  | d + 1, q => if n ≤ q ∨ t q = 125 then none else if P q = true then some (pm_pn t q + 1) else pm_fd t n P d (pm_mt 40 41 t n (pm_pn t q) + 1)
def pm_xr (t : Nat → Nat) (n : Nat) (rk : Nat → Nat) : Nat → Nat → Option Nat → Nat → Option Nat
  | 0, _, ch, _ => ch
  | d + 1, q, ch, r => if n ≤ q ∨ t q = 125 then ch else if r < rk q then pm_xr t n rk d (pm_mt 40 41 t n (pm_pn t q) + 1) (some (pm_pn t q + 1)) (rk q) else pm_xr t n rk d (pm_mt 40 41 t n (pm_pn t q) + 1) ch r
def pm_or (a b : Option Nat) : Option Nat := match a with
  | some x => some x
  | none => b
def pm_sel (t : Nat → Nat) (n : Nat) (P3 P2 P1 : Nat → Bool) (d q : Nat) (ch : Option Nat) (r : Nat) : Option Nat :=
  if 3 ≤ r then ch else pm_or (pm_fd t n P3 d q) (if 2 ≤ r then ch else pm_or (pm_fd t n P2 d q) (if 1 ≤ r then ch else pm_or (pm_fd t n P1 d q) ch))
def pm_rk (P3 P2 P1 : Nat → Bool) (q : Nat) : Nat := if P3 q = true then 3 else if P2 q = true then 2 else if P1 q = true then 1 else 0
theorem pm_xr_sel (t : Nat → Nat) (n : Nat) (P3 P2 P1 : Nat → Bool) : ∀ d q ch r, pm_xr t n (pm_rk P3 P2 P1) d q ch r = pm_sel t n P3 P2 P1 d q ch r := by
  intro d
  induction d with
  | zero =>
    intro q ch r
    unfold pm_xr pm_sel pm_fd pm_or
    simp
  | succ d ih =>
    intro q ch r
    unfold pm_xr
    by_cases z : n ≤ q ∨ t q = 125
    · rw [if_pos z]
      unfold pm_sel pm_fd
      rw [if_pos z, if_pos z, if_pos z]
      unfold pm_or
      simp
    · rw [if_neg z, ih, ih]
      unfold pm_sel
      rw [pm_fd, if_neg z, pm_fd, if_neg z, pm_fd, if_neg z]
      generalize pm_mt 40 41 t n (pm_pn t q) + 1 = q'
      generalize pm_fd t n P3 d q' = A3
      generalize pm_fd t n P2 d q' = A2
      generalize pm_fd t n P1 d q' = A1
      unfold pm_rk
      rcases (by omega : r = 0 ∨ r = 1 ∨ r = 2 ∨ 3 ≤ r) with r0 | r0 | r0 | r0
      · subst r0
        by_cases a : P3 q = true <;> by_cases b : P2 q = true <;> by_cases c : P1 q = true <;> simp [a, b, c, pm_or]
      · subst r0
        by_cases a : P3 q = true <;> by_cases b : P2 q = true <;> by_cases c : P1 q = true <;> simp [a, b, c, pm_or]
      · subst r0
        by_cases a : P3 q = true <;> by_cases b : P2 q = true <;> by_cases c : P1 q = true <;> simp [a, b, c, pm_or]
      · have l3 : ¬ r < 3 := by omega
        have l2 : ¬ r < 2 := by omega
        have l1 : ¬ r < 1 := by omega
        have l0 : ¬ r < 0 := by omega
        by_cases a : P3 q = true <;> by_cases b : P2 q = true <;> by_cases c : P1 q = true <;> simp [a, b, c, pm_or, r0, l3, l2, l1, l0]
theorem pm_fd_in {t : Nat → Nat} {n p : Nat} (S : pm_Snd t n) (P : Nat → Bool) : ∀ d q b, pm_Ky t n p q → pm_fd t n P d q = some b → pm_In t n p b := by
  intro d
  induction d with
  | zero => intro q b _ h; exact absurd h (by simp [pm_fd])
  | succ d ih =>
    intro q b K h
    rw [pm_fd] at h
    by_cases z : n ≤ q ∨ t q = 125
    · rw [if_pos z] at h; exact absurd h (by simp)
    · rw [if_neg z] at h
      have hv : t q ≠ 125 := fun y => z (Or.inr y)
      by_cases a : P q = true
      · rw [if_pos a] at h
        have e : pm_pn t q + 1 = b := Option.some.inj h
        rw [← e]
        exact (pm_KyO S K hv).2.2.2.2.2.2
      · rw [if_neg a] at h
        exact ih _ b (pm_KyN S K hv).2.2 h
/-- two properties that agree at every key place find the same -/
theorem pm_fd_eq {t : Nat → Nat} {n p : Nat} (S : pm_Snd t n) (P Q : Nat → Bool) (h : ∀ q, pm_Ky t n p q → t q ≠ 125 → P q = Q q) : ∀ d q, pm_Ky t n p q → pm_fd t n P d q = pm_fd t n Q d q := by
  intro d
  induction d with
  | zero => intro q _; rfl
  | succ d ih =>
    intro q K
    rw [pm_fd, pm_fd]
    by_cases z : n ≤ q ∨ t q = 125
    · rw [if_pos z, if_pos z]
    · have hv : t q ≠ 125 := fun y => z (Or.inr y)
      rw [if_neg z, if_neg z, h q K hv, ih _ (pm_KyN S K hv).2.2]
