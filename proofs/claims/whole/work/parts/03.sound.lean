/-! what makes a text sound: acceptance, and that replacing a piece by one plain character keeps it -/
def pm_Acc (t : Nat → Nat) (n : Nat) : Prop := pm_st t n = 0 ∧ pm_op t n = 0
def pm_Snd (t : Nat → Nat) (n : Nat) : Prop := (∀ k, k ≤ n → pm_op t k ≤ 4) ∧ pm_Acc t n
theorem pm_same (w v : Nat → Nat) : ∀ k, (∀ j, j < k → v j = w j) → pm_st v k = pm_st w k ∧ pm_op v k = pm_op w k := by
  intro k
  induction k with
  | zero => intro _; exact ⟨rfl, rfl⟩
  | succ k ih =>
    intro h
    have i := ih (fun j hj => h j (by omega))
    have e : pm_cn 123 125 v k = pm_cn 123 125 w k := i.2
    refine ⟨?_, ?_⟩
    · rw [pm_st_s, pm_st_s, i.1, e, h k (Nat.lt_succ_self k)]
    · show pm_cn 123 125 v k + pm_od 123 125 (v k) = pm_cn 123 125 w k + pm_od 123 125 (w k)
      rw [e, h k (Nat.lt_succ_self k)]
theorem pm_Acc_same {w v : Nat → Nat} {n : Nat} (h : ∀ j, j < n → v j = w j) : pm_Acc v n ↔ pm_Acc w n := by
  have e := pm_same w v n h
  unfold pm_Acc
  rw [e.1, e.2]
theorem pm_shift (w v : Nat → Nat) (a b : Nat) (hs : pm_st v a = pm_st w b) (ho : pm_op v a = pm_op w b) : ∀ d, (∀ j, j < d → v (a + j) = w (b + j)) → pm_st v (a + d) = pm_st w (b + d) ∧ pm_op v (a + d) = pm_op w (b + d) := by
  intro d
  induction d with
  | zero => intro _; exact ⟨hs, ho⟩
  | succ d ih =>
    intro h
    have i := ih (fun j hj => h j (by omega))
    have e : pm_cn 123 125 v (a + d) = pm_cn 123 125 w (b + d) := i.2
    refine ⟨?_, ?_⟩
    · show pm_st v (a + d + 1) = pm_st w (b + d + 1)
      rw [pm_st_s, pm_st_s, i.1, e, h d (Nat.lt_succ_self d)]
    · show pm_cn 123 125 v (a + d) + pm_od 123 125 (v (a + d)) = pm_cn 123 125 w (b + d) + pm_od 123 125 (w (b + d))
      rw [e, h d (Nat.lt_succ_self d)]
theorem pm_brk (s : Nat) (o : Int) (h : s ≠ 0) : pm_sa s 33 o = 7 ∧ pm_sa s 123 o = 7 := by
  unfold pm_sa pm_ks
  unfold pm_pl
  constructor
  · grind
  · grind
/-- what a found piece is, as far as the automaton goes -/
def pm_PE (w : Nat → Nat) (m i e : Nat) : Prop := i + 2 ≤ e ∧ e < m ∧ w i = 123 ∧ pm_op w (e + 1) = pm_op w i ∧ (pm_st w i = 0 → 0 ≤ pm_op w i → pm_st w (e + 1) = 0)
theorem pm_repl {w v : Nat → Nat} {m i e : Nat} (P : pm_PE w m i e) (h1 : ∀ j, j < i → v j = w j) (h2 : v i = 33) (h3 : ∀ j, i < j → j < m - (e - i) → v j = w (j + (e - i))) : pm_Acc v (m - (e - i)) ↔ pm_Acc w m := by
  obtain ⟨p1, p2, p3, p4, p5⟩ := P
  obtain ⟨s1, s2⟩ := pm_same w v i h1
  by_cases z : pm_st w i = 0
  · have nn := (pm_inv w i (by omega)).2.1
    have s4 := p5 z nn
    have t1 : pm_st v (i + 1) = pm_st w (e + 1) := by
      rw [pm_st_s, s1, z, h2, s4]; rfl
    have t2 : pm_op v (i + 1) = pm_op w (e + 1) := by
      have := (pm_cn3 123 125 v i (by decide)).2.2 (by omega) (by omega)
      unfold pm_op at *
      omega
    have q := pm_shift w v (i + 1) (e + 1) t1 t2 (m - (e + 1)) (fun j hj => by
      have := h3 (i + 1 + j) (by omega) (by omega)
      rw [this, show i + 1 + j + (e - i) = e + 1 + j by omega])
    rw [show i + 1 + (m - (e + 1)) = m - (e - i) by omega, show e + 1 + (m - (e + 1)) = m by omega] at q
    unfold pm_Acc
    rw [q.1, q.2]
  · have a1 : pm_st v (i + 1) = 7 := by rw [pm_st_s, s1, h2]; exact (pm_brk _ _ z).1
    have a2 : pm_st w (i + 1) = 7 := by rw [pm_st_s, p3]; exact (pm_brk _ _ z).2
    have b1 := pm_stick v (i + 1) a1 (m - (e - i) - (i + 1))
    have b2 := pm_stick w (i + 1) a2 (m - (i + 1))
    rw [show i + 1 + (m - (e - i) - (i + 1)) = m - (e - i) by omega] at b1
    rw [show i + 1 + (m - (i + 1)) = m by omega] at b2
    unfold pm_Acc
    rw [b1, b2]
    constructor <;> intro h <;> exact absurd h.1 (by decide)
/-! a branch, a piece -/
def pm_BrE (w : Nat → Nat) (m a e : Nat) : Prop := ∃ o, ((pm_le (w a) ∧ o = a + 1) ∨ (w a = 61 ∧ pm_dg (w (a + 1)) ∧ o = a + 2)) ∧ w o = 40 ∧ o < e ∧ e < m ∧ w e = 41 ∧ ∀ k, o < k → k < e → (w k = 35 ∨ pm_pl (w k))
def pm_PI (w : Nat → Nat) (i a : Nat) : Prop := pm_op w a = pm_op w i + 1 ∧ (pm_st w i = 0 → 0 ≤ pm_op w i → (pm_st w a = 3 ∨ pm_st w a = 4))
theorem pm_run (w : Nat → Nat) (o : Nat) : ∀ d, (∀ k, o < k → k < o + 1 + d → (w k = 35 ∨ pm_pl (w k))) → pm_op w (o + 1 + d) = pm_op w (o + 1) ∧ (pm_st w (o + 1) = 0 → pm_st w (o + 1 + d) = 0) := by
  intro d
  induction d with
  | zero => intro _; exact ⟨rfl, fun h => h⟩
  | succ d ih =>
    intro h
    have i := ih (fun k h1 h2 => h k h1 (by omega))
    have c := h (o + 1 + d) (by omega) (by omega)
    have e := (pm_cn3 123 125 w (o + 1 + d) (by decide)).2.2 (by unfold pm_pl at c; omega) (by unfold pm_pl at c; omega)
    refine ⟨?_, fun z => ?_⟩
    · show pm_cn 123 125 w (o + 1 + d + 1) = _
      rw [e]; exact i.1
    · show pm_st w (o + 1 + d + 1) = 0
      rw [pm_st_s, i.2 z]
      unfold pm_sa
      rw [if_pos rfl, if_neg (by unfold pm_pl at c; omega), if_neg (by unfold pm_pl at c; omega), if_pos c]
theorem pm_key1 (w : Nat → Nat) (a o : Nat) (h : ((pm_le (w a) ∧ o = a + 1) ∨ (w a = 61 ∧ pm_dg (w (a + 1)) ∧ o = a + 2))) (h4 : w o = 40) : pm_op w (o + 1) = pm_op w a ∧ ((pm_st w a = 3 ∨ pm_st w a = 4) → pm_st w (o + 1) = 0) := by
  unfold pm_le pm_dg at h
  rcases h with ⟨h1, rfl⟩ | ⟨h1, h2, rfl⟩
  · have e1 := (pm_cn3 123 125 w a (by decide)).2.2 (by omega) (by omega)
    have e2 := (pm_cn3 123 125 w (a + 1) (by decide)).2.2 (by omega) (by omega)
    refine ⟨by unfold pm_op; omega, fun s => ?_⟩
    rw [pm_st_s, pm_st_s, h4]
    rcases s with s | s <;> rw [s] <;> unfold pm_sa pm_ks <;> grind
  · have e1 := (pm_cn3 123 125 w a (by decide)).2.2 (by omega) (by omega)
    have e2 := (pm_cn3 123 125 w (a + 1) (by decide)).2.2 (by omega) (by omega)
    have e3 := (pm_cn3 123 125 w (a + 2) (by decide)).2.2 (by omega) (by omega)
    refine ⟨by unfold pm_op; show pm_cn 123 125 w (a + 2 + 1) = _; rw [e3]; show pm_cn 123 125 w (a + 1 + 1) = _; omega, fun s => ?_⟩
    have s1 : pm_st w (a + 1) = 5 := by
      rw [pm_st_s, h1]
      rcases s with s | s <;> rw [s] <;> rfl
    have s2 : pm_st w (a + 2) = 6 := by
      show pm_st w (a + 1 + 1) = 6
      rw [pm_st_s, s1]
      unfold pm_sa
      grind
    show pm_st w (a + 2 + 1) = 0
    rw [pm_st_s, s2, h4]
    rfl
theorem pm_brS {w : Nat → Nat} {m i a e : Nat} (I : pm_PI w i a) (B : pm_BrE w m a e) : pm_op w (e + 1) = pm_op w i + 1 ∧ (pm_st w i = 0 → 0 ≤ pm_op w i → pm_st w (e + 1) = 4) ∧ a + 2 ≤ e ∧ e < m := by
  obtain ⟨o, k1, k2, k3, k4, k5, k6⟩ := B
  obtain ⟨j1, j2⟩ := pm_key1 w a o k1 k2
  have r := pm_run w o (e - (o + 1)) (fun k h1 h2 => k6 k h1 (by omega))
  rw [show o + 1 + (e - (o + 1)) = e by omega] at r
  have x := (pm_cn3 123 125 w e (by decide)).2.2 (by omega) (by omega)
  have i1 := I.1
  refine ⟨by unfold pm_op at *; omega, fun z y => ?_, by omega, k4⟩
  have q := r.2 (j2 (I.2 z y))
  rw [pm_st_s, q, k5]
  unfold pm_sa
  rw [if_pos rfl, if_neg (by decide), if_pos rfl, if_pos (by unfold pm_op at *; omega)]
theorem pm_pieceB {w : Nat → Nat} {m i a e : Nat} (h0 : w i = 123) (hia : i < a) (I : pm_PI w i a) (B : pm_BrE w m a e) (hm : e + 1 < m) (hc : w (e + 1) = 125) : pm_PE w m i (e + 1) := by
  obtain ⟨j1, j2, j3, j4⟩ := pm_brS I B
  refine ⟨by omega, hm, h0, ?_, fun z y => ?_⟩
  · have := (pm_cn3 123 125 w (e + 1) (by decide)).2.1 hc
    unfold pm_op at *
    omega
  · rw [pm_st_s, j2 z y, hc]; rfl
theorem pm_PI0 {w : Nat → Nat} {i : Nat} (h0 : w i = 123) (h1 : 48 ≤ w (i + 1) ∧ w (i + 1) ≤ 51) (h2 : w (i + 2) = 63 ∨ w (i + 2) = 58) : pm_PI w i (i + 3) := by
  have e1 := (pm_cn3 123 125 w i (by decide)).1 h0
  have e2 := (pm_cn3 123 125 w (i + 1) (by decide)).2.2 (by omega) (by omega)
  have e3 := (pm_cn3 123 125 w (i + 2) (by decide)).2.2 (by omega) (by omega)
  refine ⟨?_, fun z _ => Or.inl ?_⟩
  · show pm_cn 123 125 w (i + 2 + 1) = pm_cn 123 125 w i + 1
    rw [e3]; show pm_cn 123 125 w (i + 1 + 1) = _; omega
  · have s1 : pm_st w (i + 1) = 1 := by rw [pm_st_s, z, h0]; rfl
    have s2 : pm_st w (i + 2) = 2 := by
      show pm_st w (i + 1 + 1) = 2
      rw [pm_st_s, s1]; unfold pm_sa; grind
    show pm_st w (i + 2 + 1) = 3
    rw [pm_st_s, s2]
    rcases h2 with h2 | h2 <;> rw [h2] <;> rfl
theorem pm_pieceV {w : Nat → Nat} {m i : Nat} (h0 : w i = 123) (h1 : 48 ≤ w (i + 1) ∧ w (i + 1) ≤ 51) (hm : i + 2 < m) (h2 : w (i + 2) = 125) : pm_PE w m i (i + 2) := by
  have e1 := (pm_cn3 123 125 w i (by decide)).1 h0
  have e2 := (pm_cn3 123 125 w (i + 1) (by decide)).2.2 (by omega) (by omega)
  have e3 := (pm_cn3 123 125 w (i + 2) (by decide)).2.1 h2
  refine ⟨by omega, hm, h0, ?_, fun z _ => ?_⟩
  · show pm_cn 123 125 w (i + 2 + 1) = pm_cn 123 125 w i
    rw [e3]; show pm_cn 123 125 w (i + 1 + 1) - 1 = _; omega
  · have s1 : pm_st w (i + 1) = 1 := by rw [pm_st_s, z, h0]; rfl
    have s2 : pm_st w (i + 2) = 2 := by
      show pm_st w (i + 1 + 1) = 2
      rw [pm_st_s, s1]; unfold pm_sa; grind
    show pm_st w (i + 2 + 1) = 0
    rw [pm_st_s, s2, h2]; rfl
/-! where a piece must be found: the last opening brace of an accepted text -/
def pm_BG (w : Nat → Nat) (m a : Nat) : Prop := pm_Acc w m ∧ a < m ∧ (pm_st w a = 3 ∨ (pm_st w a = 4 ∧ w a ≠ 125)) ∧ ∀ k, a ≤ k → k < m → w k ≠ 123
def pm_GD (w : Nat → Nat) (m i : Nat) : Prop := pm_Acc w m ∧ i < m ∧ w i = 123 ∧ ∀ k, i < k → k < m → w k ≠ 123
theorem pm_accS {w : Nat → Nat} {m k : Nat} (A : pm_Acc w m) (h : k < m) : pm_st w (k + 1) ≠ 7 := pm_ne7 (m := m) (by rw [A.1]; decide) (by omega)
theorem pm_accI {w : Nat → Nat} {m k : Nat} (A : pm_Acc w m) (h : k ≤ m) : pm_st w k ≠ 7 := pm_ne7 (m := m) (by rw [A.1]; decide) h
theorem pm_accL {w : Nat → Nat} {m k : Nat} (A : pm_Acc w m) (h : k ≤ m) (z : pm_st w k ≠ 0) : k < m := by
  rcases Nat.lt_or_ge k m with q | q
  · exact q
  · have : k = m := by omega
    subst this
    exact absurd A.1 z
theorem pm_BGkey {w : Nat → Nat} {m a : Nat} (G : pm_BG w m a) : ∃ o, ((pm_le (w a) ∧ o = a + 1) ∨ (w a = 61 ∧ pm_dg (w (a + 1)) ∧ a + 1 < m ∧ o = a + 2)) ∧ o < m ∧ w o = 40 ∧ pm_st w (o + 1) = 0 ∧ 1 ≤ pm_op w (o + 1) := by
  obtain ⟨A, h1, h2, h3⟩ := G
  have v := pm_inv w a (pm_accI A (by omega))
  have s := pm_step w a (pm_accS A h1)
  have c0 := h3 a (Nat.le_refl a) h1
  have key : (w a = 61 ∧ pm_st w (a + 1) = 5 ∧ pm_op w (a + 1) = pm_op w a) ∨ (pm_le (w a) ∧ pm_st w (a + 1) = 6 ∧ pm_op w (a + 1) = pm_op w a) := by
    unfold pm_le pm_pl pm_dg at *
    omega
  rcases key with ⟨c, s5, o5⟩ | ⟨c, s6, o6⟩
  · have l1 := pm_accL A (k := a + 1) (by omega) (by omega)
    have q := pm_step w (a + 1) (pm_accS A l1)
    have q' : pm_dg (w (a + 1)) ∧ pm_st w (a + 2) = 6 ∧ pm_op w (a + 2) = pm_op w (a + 1) := by
      rw [show a + 1 + 1 = a + 2 by omega] at q
      unfold pm_le pm_pl pm_dg at *
      omega
    have l2 := pm_accL A (k := a + 2) (by omega) (by omega)
    have r := pm_step w (a + 2) (pm_accS A l2)
    refine ⟨a + 2, Or.inr ⟨c, q'.1, l1, rfl⟩, l2, ?_⟩
    have := q'.2
    unfold pm_le pm_pl pm_dg at *
    omega
  · have l2 := pm_accL A (k := a + 1) (by omega) (by omega)
    have r := pm_step w (a + 1) (pm_accS A l2)
    refine ⟨a + 1, Or.inl ⟨c, rfl⟩, l2, ?_⟩
    unfold pm_le pm_pl pm_dg at *
    omega
theorem pm_BGrun {w : Nat → Nat} {m o k : Nat} (A : pm_Acc w m) (hs : pm_st w (o + 1) = 0) (ho : 1 ≤ pm_op w (o + 1)) (hk : o + 1 ≤ k) (hm : k ≤ m) (hp : ∀ j, o < j → j < k → (w j = 35 ∨ pm_pl (w j))) : k < m ∧ (w k = 123 ∨ w k = 41 ∨ w k = 35 ∨ pm_pl (w k)) := by
  have r := pm_run w o (k - (o + 1)) (fun j h1 h2 => hp j h1 (by omega))
  rw [show o + 1 + (k - (o + 1)) = k by omega] at r
  have r2 := r.2 hs
  have hl : k < m := by
    rcases Nat.lt_or_ge k m with q | q
    · exact q
    · have : k = m := by omega
      subst this
      have := A.2
      omega
  have s := pm_step w k (pm_accS A hl)
  refine ⟨hl, ?_⟩
  unfold pm_le pm_pl pm_dg at *
  omega
theorem pm_GD0 {w : Nat → Nat} {m i : Nat} (G : pm_GD w m i) : i + 2 < m ∧ 48 ≤ w (i + 1) ∧ w (i + 1) ≤ 51 ∧ (w (i + 2) = 125 ∨ (w (i + 2) = 63 ∨ w (i + 2) = 58) ∧ pm_BG w m (i + 3)) := by
  obtain ⟨A, h1, h2, h3⟩ := G
  have s := pm_step w i (pm_accS A h1)
  have s1 : pm_st w (i + 1) = 1 := by
    unfold pm_le pm_pl pm_dg at *
    omega
  have l1 := pm_accL A (k := i + 1) (by omega) (by omega)
  have s' := pm_step w (i + 1) (pm_accS A l1)
  rw [show i + 1 + 1 = i + 2 by omega] at s'
  have s2 : pm_st w (i + 2) = 2 ∧ 48 ≤ w (i + 1) ∧ w (i + 1) < 52 := by
    unfold pm_le pm_pl pm_dg at *
    omega
  have l2 := pm_accL A (k := i + 2) (by omega) (by omega)
  have s'' := pm_step w (i + 2) (pm_accS A l2)
  rw [show i + 2 + 1 = i + 3 by omega] at s''
  have s3 : w (i + 2) = 125 ∨ ((w (i + 2) = 63 ∨ w (i + 2) = 58) ∧ pm_st w (i + 3) = 3) := by
    unfold pm_le pm_pl pm_dg at *
    omega
  refine ⟨l2, s2.2.1, by omega, ?_⟩
  rcases s3 with s3 | s3
  · exact Or.inl s3
  · refine Or.inr ⟨s3.1, A, pm_accL A (by omega) (by omega), Or.inl s3.2, fun k k1 k2 => h3 k (by omega) k2⟩
theorem pm_GDs {w : Nat → Nat} {m a e : Nat} (G : pm_BG w m a) (B : pm_BrE w m a e) : pm_st w (e + 1) = 4 ∧ e + 1 < m ∧ (w (e + 1) ≠ 125 → pm_BG w m (e + 1)) := by
  obtain ⟨o, k1, k2, k3, k4, k5, k6⟩ := B
  obtain ⟨A, h1, h2, h3⟩ := G
  obtain ⟨j1, j2⟩ := pm_key1 w a o k1 k2
  have r := pm_run w o (e - (o + 1)) (fun k h1 h2 => k6 k h1 (by omega))
  rw [show o + 1 + (e - (o + 1)) = e by omega] at r
  have v := pm_inv w a (pm_accI A (by omega))
  have s0 := r.2 (j2 (by omega))
  have s := pm_step w e (pm_accS A k4)
  have s4 : pm_st w (e + 1) = 4 := by
    unfold pm_le pm_pl pm_dg at *
    omega
  have l := pm_accL A (k := e + 1) (by omega) (by omega)
  refine ⟨s4, l, fun z => ⟨A, l, Or.inr ⟨s4, z⟩, fun k x y => h3 k (by omega) y⟩⟩
theorem pm_last (w : Nat → Nat) : ∀ m, (∀ k, k < m → w k ≠ 123) ∨ ∃ i, i < m ∧ w i = 123 ∧ ∀ k, i < k → k < m → w k ≠ 123 := by
  intro m
  induction m with
  | zero => exact Or.inl (fun k h => absurd h (Nat.not_lt_zero k))
  | succ m ih =>
    by_cases z : w m = 123
    · exact Or.inr ⟨m, Nat.lt_succ_self m, z, fun k h1 h2 => by omega⟩
    · rcases ih with h | ⟨i, h1, h2, h3⟩
      · refine Or.inl (fun k hk => ?_)
        rcases Nat.lt_or_ge k m with q | q
        · exact h k q
        · rw [show k = m by omega]; exact z
      · refine Or.inr ⟨i, by omega, h2, fun k k1 k2 => ?_⟩
        rcases Nat.lt_or_ge k m with q | q
        · exact h3 k k1 q
        · rw [show k = m by omega]; exact z
theorem pm_plainA {w : Nat → Nat} {m : Nat} (h : ∀ k, k < m → (w k = 35 ∨ pm_pl (w k))) : pm_Acc w m := by
  have q : ∀ k, k ≤ m → pm_st w k = 0 ∧ pm_op w k = 0 := by
    intro k
    induction k with
    | zero => intro _; exact ⟨rfl, rfl⟩
    | succ k ih =>
      intro hk
      have i := ih (by omega)
      have c := h k (by omega)
      have e := (pm_cn3 123 125 w k (by decide)).2.2 (by unfold pm_pl at c; omega) (by unfold pm_pl at c; omega)
      refine ⟨?_, ?_⟩
      · rw [pm_st_s, i.1]
        unfold pm_sa
        rw [if_pos rfl, if_neg (by unfold pm_pl at c; omega), if_neg (by unfold pm_pl at c; omega), if_pos c]
      · show pm_cn 123 125 w (k + 1) = 0
        rw [e]; exact i.2
  exact q m (Nat.le_refl m)
theorem pm_plain {w : Nat → Nat} {m : Nat} (A : pm_Acc w m) (h : ∀ i, i < m → ¬ pm_GD w m i) : ∀ k, k < m → (w k = 35 ∨ pm_pl (w k)) := by
  rcases pm_last w m with q | ⟨i, h1, h2, h3⟩
  · have g : ∀ k, k ≤ m → (pm_st w k = 0 ∧ pm_op w k = 0) ∧ ∀ j, j < k → (w j = 35 ∨ pm_pl (w j)) := by
      intro k
      induction k with
      | zero => intro _; exact ⟨⟨rfl, rfl⟩, fun j hj => absurd hj (Nat.not_lt_zero j)⟩
      | succ k ih =>
        intro hk
        have i := ih (by omega)
        have s := pm_step w k (pm_accS A (by omega))
        have c := q k (by omega)
        have i1 := i.1
        have u : (w k = 35 ∨ pm_pl (w k)) ∧ pm_st w (k + 1) = 0 ∧ pm_op w (k + 1) = 0 := by
          unfold pm_le pm_pl pm_dg at *
          omega
        refine ⟨u.2, fun j hj => ?_⟩
        rcases Nat.lt_or_ge j k with x | x
        · exact i.2 j x
        · rw [show j = k by omega]; exact u.1
    exact (g m (Nat.le_refl m)).2
  · exact absurd ⟨A, h1, h2, h3⟩ (h i h1)
