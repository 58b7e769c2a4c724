/-! letters, places of the text, matching closers, the choice around -/
def pm_sL (v : Int32) : Int32 := if v < 0 then 120 else if 22 < v then 120 else 97 + v
def pm_lt (r c : Nat) (v : Int32) : Int32 := if c = 63 then nI (pm_pL r v.toInt.natAbs) else pm_sL v
section
variable {rs ty wr lb lv lk : Int32} {T V O H R : Nat → Int32} {t : Nat → Nat} {n : Nat}
theorem pm_xSel {post : Int32 → Prop} {v : Int32} (h : post (pm_sL v)) : wpX_selectLetter post v := by
  unfold wpX_selectLetter
  unfold pm_sL at h
  refine br_c (fun a => ?_) (fun a => br_c (fun b => ?_) (fun b => ?_))
  · rw [if_pos a] at h; exact h
  · rw [if_neg a, if_pos b] at h; exact h
  · rw [if_neg a, if_neg b] at h; exact h
theorem pm_xLE {post : Int32 → Prop} {m : Nat} (h : ∀ r, r = pm_pL 1 m → post (nI r)) : wpX_letterByEnding post (nI (m % 100)) := by
  have e10 : nI (m % 100) - nI (m % 100) / 10 * 10 = nI (m % 100 % 10) := pk_rem (d := 10) (by omega) (by decide) (by decide)
  have d31 : ∀ z : Int32, (z = 0 ∧ (m % 100 - m % 100 % 10 ≠ 10)) ∨ (z = 1 ∧ (m % 100 - m % 100 % 10 = 10)) → wX_letterByEnding_18 post (nI (m % 100 % 10)) z := by
    intro z hz
    have t31 : ¬ (m % 10 = 1 ∧ m % 100 ≠ 11) → wX_letterByEnding_31 post (nI (m % 100 % 10)) z := by
      intro hn
      unfold wX_letterByEnding_31
      refine pk_lt (m % 100 % 10) 2 (fun g => h 109 ?_) (fun g => pk_lt 4 (m % 100 % 10) (fun g' => h 109 ?_) (fun g' => ?_))
      · unfold pm_pL; rw [if_neg (by omega), if_pos rfl, if_neg hn, if_neg (by omega)]
      · unfold pm_pL; rw [if_neg (by omega), if_pos rfl, if_neg hn, if_neg (by omega)]
      · rcases hz with ⟨rfl, hz⟩ | ⟨rfl, hz⟩
        · refine br_t rfl (h 102 ?_)
          unfold pm_pL; rw [if_neg (by omega), if_pos rfl, if_neg hn, if_pos (by omega)]
        · refine br_f (by decide) (h 109 ?_)
          unfold pm_pL; rw [if_neg (by omega), if_pos rfl, if_neg hn, if_neg (by omega)]
    unfold wX_letterByEnding_18
    refine pk_eq (m % 100 % 10) 1 (fun g => ?_) (fun g => t31 (by omega))
    rcases hz with ⟨rfl, hz⟩ | ⟨rfl, hz⟩
    · refine br_t rfl (h 111 ?_)
      unfold pm_pL; rw [if_neg (by omega), if_pos rfl, if_pos (by omega)]
    · exact br_f (by decide) (t31 (by omega))
  unfold wpX_letterByEnding
  refine ⟨by decide, nm_r e10 ?_⟩
  rw [pk_sub (by omega)]
  exact pk_eq (m % 100 - m % 100 % 10) 10 (fun g => d31 1 (Or.inr ⟨rfl, g⟩)) (fun g => d31 0 (Or.inl ⟨rfl, g⟩))
theorem pm_xLR {post : Int32 → Prop} {m : Nat} (hm : m ≤ 2147483648) (h : ∀ r, r = pm_pL 2 m → post (nI r)) : wpX_letterByRange post (lN m) (nI (m % 100)) := by
  have t43 : m ≠ 0 → m ≠ 1 → m ≠ 2 → ¬ (3 ≤ m % 100 ∧ m % 100 ≤ 10) → wX_letterByRange_43 post (nI (m % 100)) := by
    intro h0 h1 h2 h3
    unfold wX_letterByRange_43
    refine pk_lt (m % 100) 11 (fun g => h 120 ?_) (fun g => h 109 ?_)
    · unfold pm_pL; rw [if_neg (by omega), if_neg (by omega), if_neg h0, if_neg h1, if_neg h2, if_neg h3, if_neg (by omega)]
    · unfold pm_pL; rw [if_neg (by omega), if_neg (by omega), if_neg h0, if_neg h1, if_neg h2, if_neg h3, if_pos (by omega)]
  unfold wpX_letterByRange
  refine br_c (fun g => h 122 ?_) (fun g0 => br_c (fun g => h 111 ?_) (fun g1 => br_c (fun g => h 116 ?_) (fun g2 => ?_)))
  · have := (pk_lEQ (b := 0) (by omega) (by decide)).mp g
    subst this; rfl
  · have := (pk_lEQ (b := 1) (by omega) (by decide)).mp g
    subst this; rfl
  · have := (pk_lEQ (b := 2) (by omega) (by decide)).mp g
    subst this; rfl
  · have n0 : m ≠ 0 := fun z => g0 (by subst z; rfl)
    have n1 : m ≠ 1 := fun z => g1 (by subst z; rfl)
    have n2 : m ≠ 2 := fun z => g2 (by subst z; rfl)
    refine pk_lt (m % 100) 3 (fun g => t43 n0 n1 n2 (by omega)) (fun g => pk_lt 10 (m % 100) (fun g' => t43 n0 n1 n2 (by omega)) (fun g' => h 102 ?_))
    unfold pm_pL; rw [if_neg (by omega), if_neg (by omega), if_neg n0, if_neg n1, if_neg n2, if_pos (by omega)]
theorem pm_l100 {m : Nat} (hm : m ≤ 2147483648) : (lN m - lN m / 100 * 100).toInt32 = nI (m % 100) ∧ (lN m - lN m / 10 * 10).toInt32 = nI (m % 10) := by
  constructor
  · rw [show lN m - lN m / 100 * 100 = lN (m % 100) from pk_lRem (b := 100) (by omega) (by decide) (by decide), lN_i]
  · rw [show lN m - lN m / 10 * 10 = lN (m % 10) from pk_lRem (b := 10) (by omega) (by decide) (by decide), lN_i]
theorem pm_xPL {post : Int32 → Prop} {v : Int32} {r : Nat} (hr : r ≤ 2) (h : post (nI (pm_pL r v.toInt.natAbs))) : wpX_pluralLetter post (nI r, ty, wr, lb, lv, lk, T, V, O, H, R) v := by
  have b := pm_absB v
  unfold wpX_pluralLetter
  refine pm_xWS ?_
  revert b h
  generalize v.toInt.natAbs = m
  intro b h
  refine pk_eq r 0 (fun e => ?_) (fun e => ⟨by decide, nm_r (pm_l100 h).1 ?_⟩)
  · subst e
    refine br_c (fun g => ?_) (fun g => ?_)
    · have e : m = 1 := (pk_lEQ (b := 1) (by omega) (by decide)).mp g
      rw [pm_pL, if_pos rfl, if_pos e] at b; exact b
    · have e : ¬ m = 1 := fun z => g (by subst z; rfl)
      rw [pm_pL, if_pos rfl, if_neg e] at b; exact b
  · refine pk_eq r 1 (fun e1 => ?_) (fun e1 => ?_)
    · subst e1; exact pm_xLE (fun s hs => by subst hs; exact b)
    · obtain rfl : r = 2 := by omega
      exact pm_xLR h (fun s hs => by subst hs; exact b)
theorem pm_xTA {post : Int32 → Prop} {p : Nat} (hT : ∀ j, T j = nI (t j)) (hn : n ≤ 96) (hp : p < n) (h : post (nI (t p))) : wpX_templateAt post (rs, nI n, wr, lb, lv, lk, T, V, O, H, R) (nI p) := by
  unfold wpX_templateAt
  refine pk_lt p 0 (fun z => absurd z (by omega)) (fun _ => pk_le n p (fun z => absurd z (by omega)) (fun _ => ⟨vp_in_nI (by omega) (by decide), ?_⟩))
  rw [nI_clamp (by omega), hT]; exact h
theorem pm_xAA {post : Int32 → Prop} {p : Nat} (hT : ∀ j, T j = nI (t j)) (hn : n ≤ 96) (hp : p < n) (h1 : 48 ≤ t p) (h2 : t p ≤ 51) (h : post (nI (t p - 48))) : wpX_argumentAt post (rs, nI n, wr, lb, lv, lk, T, V, O, H, R) (nI p) := by
  unfold wpX_argumentAt
  refine pm_xTA hT hn hp ?_
  rw [pk_andN (by omega) 2 (by decide), show t p % 2 ^ 2 = t p - 48 by omega]
  exact h
/-- what a found closer is -/
def pm_Mt (a b : Nat) (t : Nat → Nat) (n s f : Nat) : Prop := s < f ∧ f < n ∧ pm_cn a b t (f + 1) = pm_cn a b t s ∧ t s = a ∧ ∀ j, s < j → j ≤ f → pm_cn a b t s + 1 ≤ pm_cn a b t j
theorem pm_xAM6 {post : Int32 → Prop} {a b s f : Nat} (hab : a ≠ b) (ha : a < 65536) (hb : b < 65536) (hT : ∀ j, T j = nI (t j)) (hc : ∀ j, t j < 65536) (hn : n ≤ 96) (M : pm_Mt a b t n s f) (h : post (nI (f + 1))) : ∀ d k o : Nat, k + d = f → s ≤ k → pm_cn a b t k = pm_cn a b t s + o → ∀ m, d < m → wX_afterMatch_6 post (nI a) (nI b) rs (nI n) wr lb lv lk T V O H R m (nI o) (nI k) := by
  obtain ⟨m1, m2, m3, m4, m5⟩ := M
  intro d
  induction d with
  | zero =>
    intro k o hk hs ho m hm
    obtain ⟨m, rfl⟩ : ∃ x, m = x + 1 := ⟨m - 1, by omega⟩
    obtain rfl : k = f := by omega
    have c3 := pm_cn3 a b t k hab
    have g5 := m5 k m1 (Nat.le_refl k)
    have hck := hc k
    have c1 : pm_cn a b t (k + 1) = pm_cn a b t k - 1 ∧ t k = b ∧ o = 1 := by
      have c1 := pm_cn1 a b t k hab
      by_cases z : t k = b
      · have := c3.2.1 z; omega
      · by_cases y : t k = a
        · have := c3.1 y; omega
        · have := c3.2.2 y z; omega
    have hin : vp_in (nI k) 96 := vp_in_nI (by omega) (by decide)
    have hcl : T (nI k).toNatClampNeg = nI (t k) := by rw [nI_clamp (by omega)]; exact hT k
    rw [wX_afterMatch_6]
    dsimp only
    rw [hcl]
    refine pk_lt k 0 (fun z => absurd z (by omega)) (fun _ => pk_le n k (fun z => absurd z (by omega)) (fun _ => ⟨hin, ?_⟩))
    refine pk_eq (t k) a (fun z => absurd z (by omega)) (fun _ => ⟨hin, pk_eq (t k) b (fun _ => nm_r (e' := nI 0) ?_ ?_) (fun z => absurd c1.2.1 z)⟩)
    · rw [c1.2.2]; exact pk_m1 0
    · unfold wX_afterMatch_51
      exact br_t rfl (by rw [nI_1 k]; exact h)
  | succ d ih =>
    intro k o hk hs ho m hm
    obtain ⟨m, rfl⟩ : ∃ x, m = x + 1 := ⟨m - 1, by omega⟩
    have c3 := pm_cn3 a b t k hab
    have g5 := m5 (k + 1) (by omega) (by omega)
    have bd := pm_cnB a b t hab (k + 1)
    have bs := pm_cnB a b t hab s
    have hck := hc k
    have hin : vp_in (nI k) 96 := vp_in_nI (by omega) (by decide)
    have hcl : T (nI k).toNatClampNeg = nI (t k) := by rw [nI_clamp (by omega)]; exact hT k
    have nx : ∀ o' : Nat, pm_cn a b t (k + 1) = pm_cn a b t s + o' → wX_afterMatch_51 post (wX_afterMatch_6 post (nI a) (nI b) rs (nI n) wr lb lv lk T V O H R m) (nI a) (nI b) (nI o') (nI k) rs (nI n) wr lb lv lk T V O H R := by
      intro o' ho'
      unfold wX_afterMatch_51
      refine pk_eq o' 0 (fun z => absurd z (by omega)) (fun _ => nm_r (nI_1 k) ?_)
      exact ih (k + 1) o' (by omega) (by omega) ho' m (by omega)
    rw [wX_afterMatch_6]
    dsimp only
    rw [hcl]
    refine pk_lt k 0 (fun z => absurd z (by omega)) (fun _ => pk_le n k (fun z => absurd z (by omega)) (fun _ => ⟨hin, ?_⟩))
    refine pk_eq (t k) a (fun z => nm_r (nI_1 o) (nx (o + 1) ?_)) (fun z => ⟨hin, pk_eq (t k) b (fun y => nm_r (e' := nI (o - 1)) ?_ (nx (o - 1) ?_)) (fun y => nx o ?_)⟩)
    · have := c3.1 z; omega
    · have := c3.2.1 y
      obtain ⟨o', rfl⟩ : ∃ x, o = x + 1 := ⟨o - 1, by omega⟩
      exact pk_m1 o'
    · have := c3.2.1 y; omega
    · have := c3.2.2 z y; omega
theorem pm_xAM {post : Int32 → Prop} {a b s f : Nat} (hab : a ≠ b) (ha : a < 65536) (hb : b < 65536) (hT : ∀ j, T j = nI (t j)) (hc : ∀ j, t j < 65536) (hn : n ≤ 96) (M : pm_Mt a b t n s f) (h : post (nI (f + 1))) : wpX_afterMatch post (rs, nI n, wr, lb, lv, lk, T, V, O, H, R) (nI s) (nI a) (nI b) :=
  ⟨f - s + 1, pm_xAM6 hab ha hb hT hc hn M h (f - s) s 0 (by have := M.1; omega) (Nat.le_refl s) (by omega) (f - s + 1) (by omega)⟩
end
section
variable {ru nn ln cs lf ct lo : Int32} {T V Q W M : Nat → Int32} {t : Nat → Nat} {n : Nat}
theorem pm_yPL12 {post : Int32 → Prop} {m r : Nat} (hr : r ≤ 2) (hm : m ≤ 2147483648) (h : ∀ s, s = pm_pL r m → post (nI s)) : wY_pluralLetter_12 post (lN m) (nI r) nn ln cs lf ct lo T V Q W M := by
  unfold wY_pluralLetter_12
  refine ⟨by decide, nm_r (pm_l100 hm).2 ⟨by decide, nm_r (pm_l100 hm).1 ?_⟩⟩
  refine pk_eq r 0 (fun e => ?_) (fun e0 => pk_eq r 1 (fun e => ?_) (fun e1 => ?_))
  · subst e
    refine br_c (fun g => h 111 ?_) (fun g => h 120 ?_)
    · have e : m = 1 := (pk_lEQ (b := 1) (by omega) (by decide)).mp g
      rw [pm_pL, if_pos rfl, if_pos e]
    · have e : ¬ m = 1 := fun z => g (by subst z; rfl)
      rw [pm_pL, if_pos rfl, if_neg e]
  · subst e
    have t74 : ¬ (m % 10 = 1 ∧ m % 100 ≠ 11) → wY_pluralLetter_74 post (nI (m % 10)) (nI (m % 100)) (nI 1) nn ln cs lf ct lo T V Q W M := by
      intro hn
      unfold wY_pluralLetter_74
      refine pk_lt (m % 10) 2 (fun g => h 109 ?_) (fun g => pk_lt 4 (m % 10) (fun g' => h 109 ?_) (fun g' => pk_lt (m % 100) 12 (fun k => h 102 ?_) (fun k => pk_le (m % 100) 14 (fun k' => h 109 ?_) (fun k' => h 102 ?_))))
      · unfold pm_pL; rw [if_neg (by omega), if_pos rfl, if_neg hn, if_neg (by omega)]
      · unfold pm_pL; rw [if_neg (by omega), if_pos rfl, if_neg hn, if_neg (by omega)]
      · unfold pm_pL; rw [if_neg (by omega), if_pos rfl, if_neg hn, if_pos (by omega)]
      · unfold pm_pL; rw [if_neg (by omega), if_pos rfl, if_neg hn, if_neg (by omega)]
      · unfold pm_pL; rw [if_neg (by omega), if_pos rfl, if_neg hn, if_pos (by omega)]
    refine pk_eq (m % 10) 1 (fun g => pk_eq (m % 100) 11 (fun g' => t74 (by omega)) (fun g' => h 111 ?_)) (fun g => t74 (by omega))
    unfold pm_pL; rw [if_neg (by omega), if_pos rfl, if_pos ⟨g, g'⟩]
  · obtain rfl : r = 2 := by omega
    have t159 : m ≠ 0 → m ≠ 1 → m ≠ 2 → ¬ (3 ≤ m % 100 ∧ m % 100 ≤ 10) → wY_pluralLetter_159 post (nI (m % 100)) (nI 2) nn ln cs lf ct lo T V Q W M := by
      intro h0 h1 h2 h3
      unfold wY_pluralLetter_159
      refine pk_lt (m % 100) 11 (fun g => h 120 ?_) (fun g => h 109 ?_)
      · unfold pm_pL; rw [if_neg (by omega), if_neg (by omega), if_neg h0, if_neg h1, if_neg h2, if_neg h3, if_neg (by omega)]
      · unfold pm_pL; rw [if_neg (by omega), if_neg (by omega), if_neg h0, if_neg h1, if_neg h2, if_neg h3, if_pos (by omega)]
    refine br_c (fun g => ?_) (fun g => ?_)
    · have g' : 2 < m := (pk_lLT (a := 2) (by decide) (by omega)).mp g
      refine pk_lt (m % 100) 3 (fun g => t159 (by omega) (by omega) (by omega) (by omega)) (fun g => pk_lt 10 (m % 100) (fun g' => t159 (by omega) (by omega) (by omega) (by omega)) (fun g' => h 102 ?_))
      unfold pm_pL; rw [if_neg (by omega), if_neg (by omega), if_neg (by omega), if_neg (by omega), if_neg (by omega), if_pos (by omega)]
    · have g' : ¬ 2 < m := fun z => g ((pk_lLT (a := 2) (by decide) (by omega)).mpr z)
      refine br_c (fun k => h 122 ?_) (fun k0 => br_c (fun k => h 111 ?_) (fun k1 => h 116 ?_))
      · have := (pk_lEQ (b := 0) (by omega) (by decide)).mp k
        subst this; rfl
      · have := (pk_lEQ (b := 1) (by omega) (by decide)).mp k
        subst this; rfl
      · have n0 : m ≠ 0 := fun z => k0 (by subst z; rfl)
        have n1 : m ≠ 1 := fun z => k1 (by subst z; rfl)
        obtain rfl : m = 2 := by omega
        rfl
theorem pm_yLO {post : Int32 → Prop} {v : Int32} {r c : Nat} (hr : r ≤ 2) (hc : c < 65536) (h : post (pm_lt r c v)) : wpY_letterOf post (nI r, nn, ln, cs, lf, ct, lo, T, V, Q, W, M) (nI c) v := by
  unfold wpY_letterOf
  unfold pm_lt at h
  have b := pm_absB v
  refine pk_eq c 63 (fun e => ?_) (fun e => ?_)
  · rw [if_pos e] at h
    unfold wpY_pluralLetter
    refine br_c (fun g => ?_) (fun g => ?_)
    · rw [pm_absP v (Int32.not_lt.mpr g)]
      exact pm_yPL12 hr b (fun s hs => by subst hs; exact h)
    · rw [pm_absM v (Int32.not_le.mp g)]
      exact pm_yPL12 hr b (fun s hs => by subst hs; exact h)
  · rw [if_neg e] at h
    unfold pm_sL at h
    refine br_c (fun a => ?_) (fun a => br_c (fun b => ?_) (fun b => ?_))
    · rw [if_pos a] at h; exact h
    · rw [if_neg a, if_pos b] at h; exact h
    · rw [if_neg a, if_neg b] at h; exact h
theorem pm_yTA {post : Int32 → Prop} {p : Nat} (hT : ∀ j, T j = nI (t j)) (hn : n ≤ 96) (hp : p < n) (h : post (nI (t p))) : wpY_textAt post (ru, nI n, ln, cs, lf, ct, lo, T, V, Q, W, M) (nI p) := by
  unfold wpY_textAt
  refine pk_lt p 0 (fun z => absurd z (by omega)) (fun _ => pk_le n p (fun z => absurd z (by omega)) (fun _ => ⟨vp_in_nI (by omega) (by decide), ?_⟩))
  rw [nI_clamp (by omega), hT]; exact h
theorem pm_yCl6 {post : Int32 → Prop} {a b s f : Nat} (hab : a ≠ b) (ha : a < 65536) (hb : b < 65536) (hT : ∀ j, T j = nI (t j)) (hc : ∀ j, t j < 65536) (hn : n ≤ 96) (K : pm_Mt a b t n s f) (h : post (nI f)) : ∀ d k o : Nat, k + d = f → s ≤ k → pm_cn a b t k = pm_cn a b t s + o → ∀ m, d < m → wY_closing_6 post (nI a) (nI b) ru (nI n) ln cs lf ct lo T V Q W M m (nI o) (nI k) := by
  obtain ⟨m1, m2, m3, m4, m5⟩ := K
  intro d
  induction d with
  | zero =>
    intro k o hk hs ho m hm
    obtain ⟨m, rfl⟩ : ∃ x, m = x + 1 := ⟨m - 1, by omega⟩
    obtain rfl : k = f := by omega
    have c3 := pm_cn3 a b t k hab
    have g5 := m5 k m1 (Nat.le_refl k)
    have hck := hc k
    have c1 : pm_cn a b t (k + 1) = pm_cn a b t k - 1 ∧ t k = b ∧ o = 1 := by
      have c1 := pm_cn1 a b t k hab
      by_cases z : t k = b
      · have := c3.2.1 z; omega
      · by_cases y : t k = a
        · have := c3.1 y; omega
        · have := c3.2.2 y z; omega
    have hin : vp_in (nI k) 96 := vp_in_nI (by omega) (by decide)
    have hcl : T (nI k).toNatClampNeg = nI (t k) := by rw [nI_clamp (by omega)]; exact hT k
    rw [wY_closing_6]
    dsimp only
    rw [hcl]
    refine pk_le n k (fun z => absurd z (by omega)) (fun _ => ⟨hin, pk_eq (t k) a (fun z => absurd z (by omega)) (fun _ => ?_)⟩)
    unfold wY_closing_29
    rw [hcl]
    refine ⟨hin, pk_eq (t k) b (fun _ => nm_r (e' := nI 0) ?_ ?_) (fun z => absurd c1.2.1 z)⟩
    · rw [c1.2.2]; exact pk_m1 0
    · unfold wY_closing_43
      exact br_t rfl h
  | succ d ih =>
    intro k o hk hs ho m hm
    obtain ⟨m, rfl⟩ : ∃ x, m = x + 1 := ⟨m - 1, by omega⟩
    have c3 := pm_cn3 a b t k hab
    have g5 := m5 (k + 1) (by omega) (by omega)
    have bd := pm_cnB a b t hab (k + 1)
    have bs := pm_cnB a b t hab s
    have hck := hc k
    have hin : vp_in (nI k) 96 := vp_in_nI (by omega) (by decide)
    have hcl : T (nI k).toNatClampNeg = nI (t k) := by rw [nI_clamp (by omega)]; exact hT k
    have nx : ∀ o' : Nat, pm_cn a b t (k + 1) = pm_cn a b t s + o' → wY_closing_43 post (wY_closing_6 post (nI a) (nI b) ru (nI n) ln cs lf ct lo T V Q W M m) (nI a) (nI b) (nI o') (nI k) ru (nI n) ln cs lf ct lo T V Q W M := by
      intro o' ho'
      unfold wY_closing_43
      refine pk_eq o' 0 (fun z => absurd z (by omega)) (fun _ => nm_r (nI_1 k) ?_)
      exact ih (k + 1) o' (by omega) (by omega) ho' m (by omega)
    rw [wY_closing_6]
    dsimp only
    rw [hcl]
    refine pk_le n k (fun z => absurd z (by omega)) (fun _ => ⟨hin, pk_eq (t k) a (fun z => nm_r (nI_1 o) ?_) (fun z => ?_)⟩)
    · unfold wY_closing_29
      rw [hcl]
      refine ⟨hin, pk_eq (t k) b (fun y => absurd y (by omega)) (fun y => nx (o + 1) ?_)⟩
      have := c3.1 z; omega
    · unfold wY_closing_29
      rw [hcl]
      refine ⟨hin, pk_eq (t k) b (fun y => nm_r (e' := nI (o - 1)) ?_ (nx (o - 1) ?_)) (fun y => nx o ?_)⟩
      · have := c3.2.1 y
        obtain ⟨o', rfl⟩ : ∃ x, o = x + 1 := ⟨o - 1, by omega⟩
        exact pk_m1 o'
      · have := c3.2.1 y; omega
      · have := c3.2.2 z y; omega
theorem pm_yCl {post : Int32 → Prop} {a b s f : Nat} (hab : a ≠ b) (ha : a < 65536) (hb : b < 65536) (hT : ∀ j, T j = nI (t j)) (hc : ∀ j, t j < 65536) (hn : n ≤ 96) (K : pm_Mt a b t n s f) (h : post (nI f)) : wpY_closing post (ru, nI n, ln, cs, lf, ct, lo, T, V, Q, W, M) (nI s) (nI a) (nI b) :=
  ⟨f - s + 1, pm_yCl6 hab ha hb hT hc hn K h (f - s) s 0 (by have := K.1; omega) (Nat.le_refl s) (by omega) (f - s + 1) (by omega)⟩
def pm_en (o : Option Nat) : Int32 := match o with
  | some x => nI x
  | none => -1
theorem pm_lin1 {y a b : Int} (h : y = 1 - (a - b)) : y = 0 ↔ b = a - 1 := by omega
theorem pm_yAr6 {post : Int32 → Prop} {i : Nat} (hT : ∀ j, T j = nI (t j)) (hc : ∀ j, t j < 65536) (hi : i ≤ 96) (h : post (pm_en (pm_ar t i))) : ∀ k : Nat, k ≤ i → pm_ar t i = pm_ac t i k → ∀ (x : Int32), x.toInt = 1 - (pm_op t i - pm_op t k) → ∀ m, k < m → wY_around_6 post ru (nI n) ln cs lf ct lo T V Q W M m x (nI k - 1) := by
  intro k
  induction k with
  | zero =>
    intro hk ha x hx m hm
    obtain ⟨m, rfl⟩ : ∃ y, m = y + 1 := ⟨m - 1, by omega⟩
    rw [wY_around_6]
    rw [ha] at h
    exact br_t (by decide) h
  | succ k ih =>
    intro hk ha x hx m hm
    obtain ⟨m, rfl⟩ : ∃ y, m = y + 1 := ⟨m - 1, by omega⟩
    have c3 := pm_cn3 123 125 t k (by decide)
    have b1 := pm_cnB 123 125 t (by decide) i
    have b2 := pm_cnB 123 125 t (by decide) (k + 1)
    have hck := hc k
    have e1 := pm_i1 hx (by unfold pm_op; omega) (by unfold pm_op; omega)
    have hin : vp_in (nI k) 96 := vp_in_nI (by omega) (by decide)
    have hcl : T (nI k).toNatClampNeg = nI (t k) := by rw [nI_clamp (by omega)]; exact hT k
    have nx : ∀ y : Int32, y.toInt = 1 - (pm_op t i - pm_op t k) → wY_around_38 post (wY_around_6 post ru (nI n) ln cs lf ct lo T V Q W M m) y (nI k) ru (nI n) ln cs lf ct lo T V Q W M := by
      intro y hy
      unfold wY_around_38
      refine br_c (fun g => ?_) (fun g => nm_r (e' := nI k - 1) (Int32.sub_eq_add_neg _ _).symm ?_)
      · have g' : y.toInt = 0 := by rw [g]; rfl
        have : pm_ac t i (k + 1) = some k := if_pos ((pm_lin1 hy).mp g')
        rw [ha, this] at h
        exact h
      · have g' : y.toInt ≠ 0 := fun z => g (Int32.toInt_inj.mp (by rw [z]; rfl))
        exact ih (Nat.le_of_succ_le hk) (by rw [ha, pm_ac, if_neg (fun z => g' ((pm_lin1 hy).mpr z))]) y hy m (Nat.lt_of_succ_lt_succ hm)
    rw [wY_around_6]
    dsimp only
    rw [nI_pred, hcl]
    refine br_f (nI_pos (by omega)) ⟨hin, pk_eq (t k) 125 (fun z => nm_e ?_) (fun z => ?_)⟩
    · unfold wY_around_24
      rw [hcl]
      refine ⟨hin, pk_eq (t k) 123 (fun y => absurd y (by omega)) (fun y => nx _ ?_)⟩
      have := c3.2.1 z
      rw [e1.1]; unfold pm_op; omega
    · unfold wY_around_24
      rw [hcl]
      refine ⟨hin, pk_eq (t k) 123 (fun y => nm_e (nx _ ?_)) (fun y => nx _ ?_)⟩
      · have := c3.1 y
        rw [e1.2]; unfold pm_op; omega
      · have := c3.2.2 y z
        rw [hx]; unfold pm_op; omega
theorem pm_yAr {post : Int32 → Prop} {i : Nat} (hT : ∀ j, T j = nI (t j)) (hc : ∀ j, t j < 65536) (hi : i ≤ 96) (h : post (pm_en (pm_ar t i))) : wpY_around post (ru, nI n, ln, cs, lf, ct, lo, T, V, Q, W, M) (nI i) := by
  unfold wpY_around
  exact nm_e ⟨i + 1, pm_yAr6 hT hc hi h i (Nat.le_refl i) rfl 1 (by rw [Int.sub_self]; rfl) (i + 1) (by omega)⟩
end
