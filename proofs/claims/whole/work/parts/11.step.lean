/-! one step of formatting, in lockstep -/
abbrev pm_bit (a : Nat) : Int32 := (1 : Int32) <<< (nI a &&& 31)
def pm_Iv (t : Nat → Nat) (n p L w : Nat) (lk : Int32) (O M H R : Nat → Int32) : Prop := p ≤ n ∧ pm_st t p = 0 ∧ pm_Ch t n H R L p ∧ pm_Eq O M w ∧ ∀ l, l ≤ L → H l = -1 ∨ ∃ a, a < 4 ∧ H l = nI a ∧ lk ||| ((1 : Int32) <<< (nI a &&& 31)) = lk
def pm_Nx (t : Nat → Nat) (n r k p L w : Nat) (lb lk : Int32) (T V O H R M : Nat → Int32) : Prop :=
  ∃ (p' L' w' : Nat) (lk' : Int32) (O' M' H' R' : Nat → Int32), pm_Iv t n p' L' w' lk' O' M' H' R' ∧ w' ≤ w + 11
    ∧ (∀ (post : SX → Prop) (f : Nat), wX_writeTemplate_16 post f (nI p') (nI (k + 1)) (nI r) (nI n) (nI w') lb (nI L') lk' T V O' H' R' → wX_writeTemplate_16 post (f + 1) (nI p) (nI k) (nI r) (nI n) (nI w) lb (nI L) lk T V O H R)
    ∧ (∀ (ln cs lf : Int32) (Q W : Nat → Int32) (post : Int32 → SY → Prop), post (nI p') (nI r, nI n, ln, cs, lf, nI w', lk', T, V, Q, W, M') → wpY_step post (nI r, nI n, ln, cs, lf, nI w, lk, T, V, Q, W, M) (nI p))
theorem pm_nm1 {a : Nat} (h : a < 2 ^ 31) : ¬ nI a = -1 := by
  intro y
  have := congrArg Int32.toInt y
  rw [nI_toInt h] at this
  have e1 : (-1 : Int32).toInt = -1 := rfl
  omega
theorem pm_orK {lk x b : Int32} (h : lk ||| b = lk) : lk ||| x ||| b = lk ||| x := by
  rw [Int32.or_assoc, Int32.or_comm x b, ← Int32.or_assoc, h]
theorem pm_orS (lk x : Int32) : lk ||| x ||| x = lk ||| x := by
  rw [Int32.or_assoc, Int32.or_self]
section
variable {lb lv lk ln cs lf : Int32} {T V O H R Q W M : Nat → Int32} {t : Nat → Nat} {n r : Nat}
theorem pm_xO75 {post : SX → Prop} {p k w f : Nat} (S : pm_Snd t n) (hT : ∀ j, T j = nI (t j)) (hc : ∀ j, t j < 65536) (hn : n ≤ 96) (hk : k < 96) (hp : p < n) (hs : pm_st t p = 0) (hne : t p = 123 → t (p + 2) ≠ 125) (h : wX_writeTemplate_75 post (wX_writeTemplate_16 post f) (nI p) (nI k) (nI (t p)) (nI r) (nI n) (nI w) lb lv lk T V O H R) : wX_writeTemplate_16 post (f + 1) (nI p) (nI k) (nI r) (nI n) (nI w) lb lv lk T V O H R := by
  have hcp := hc p
  have hcp2 := hc (p + 2)
  rw [wX_writeTemplate_16]
  refine pk_le 96 k (fun z => absurd z (by omega)) (fun _ => pk_le n p (fun z => absurd z (by omega)) (fun _ => ?_))
  refine pm_xTA hT hn hp ?_
  refine pk_eq (t p) 123 (fun e => ?_) (fun e => h)
  rw [show nI p + 2 = nI (p + 2) from nI_add p 2]
  refine pm_xTA hT hn (pm_brace S hp hs e).1 ?_
  exact pk_eq (t (p + 2)) 125 (fun z => absurd z (hne e)) (fun _ => h)
/-- a closing parenthesis -/
theorem pm_sLeave {p k w L : Nat} (S : pm_Snd t n) (hT : ∀ j, T j = nI (t j)) (hc : ∀ j, t j < 65536) (hn : n ≤ 96) (hk : k < 96) (I : pm_Iv t n p L w lk O M H R) (hp : p < n) (h41 : t p = 41) : pm_Nx t n r k p L w lb lk T V O H R M := by
  obtain ⟨i1, i2, i3, i4, i5⟩ := I
  have po := pm_paren S hp i2 h41
  have lo := pm_Ch_op i3
  have hI := pm_SndI S i1
  cases L with
  | zero => omega
  | succ l =>
    obtain ⟨j0, c, j1, j2, j3, j4, j5, j6, j7, j8⟩ := i3
    obtain ⟨e1, e2, e3, e4, e5⟩ := pm_cend S j4 j2
    have hin : vp_in (nI p) 96 := vp_in_nI (by omega) (by decide)
    have hcl : T (nI p).toNatClampNeg = nI (t p) := by rw [nI_clamp (by omega)]; exact hT p
    refine ⟨pm_mt 123 125 t n c + 1, l, w, lk, O, M, H, R, ⟨by omega, e4, ?_, i4, fun j hj => i5 j (by omega)⟩, by omega, fun post f h => ?_, fun ln cs lf Q W post h => ?_⟩
    · refine pm_Ch_move j8 (by omega) e3 (fun x x1 x2 => ?_)
      rcases Nat.eq_or_lt_of_le x1 with y | y
      · rw [← y]; exact Int.le_refl _
      · have := e5 x y (by omega); omega
    · refine pm_xO75 S hT hc hn hk hp i2 (fun z => absurd z (by omega)) ?_
      rw [h41]
      unfold wX_writeTemplate_75
      refine br_f (by decide) (br_t rfl ?_)
      unfold wpX_leaveChoice
      refine pk_le (l + 1) 0 (fun z => absurd z (by omega)) (fun _ => pk_lt (l + 1) 5 (fun _ => nm_r (nI_pred l) ?_) (fun z => absurd z (by omega)))
      rw [nI_1 l, nI_clamp (n := l + 1) (by omega), j5]
      exact ⟨vp_in_nI (by omega) (by decide), nm_r (nI_1 k) h⟩
    · unfold wpY_step
      dsimp only
      rw [hcl, h41]
      refine ⟨hin, br_t rfl ?_⟩
      refine pm_yAr hT hc (by omega) ?_
      rw [pm_ar_some j1]
      refine br_t (nI_pos' (by omega)) ?_
      unfold wY_step_27
      refine pm_yCl (a := 123) (b := 125) (by decide) (by decide) (by decide) hT hc hn (pm_MtB S j4 j2) ?_
      rw [nI_1]
      exact h
theorem pm_and3 {c : Nat} (h1 : 48 ≤ c) (h2 : c ≤ 51) : (nI c - 48) &&& 3 = nI (c - 48) := by
  rw [show nI c - 48 = nI (c - 48) from pk_sub (b := 48) h1, pk_andN (by omega) 2 (by decide)]
  exact congrArg nI (by omega)
theorem pm_IvB {lk x : Int32} {L : Nat} {H : Nat → Int32} (i5 : ∀ l, l ≤ L → H l = -1 ∨ ∃ a, a < 4 ∧ H l = nI a ∧ lk ||| ((1 : Int32) <<< (nI a &&& 31)) = lk) : ∀ l, l ≤ L → H l = -1 ∨ ∃ a, a < 4 ∧ H l = nI a ∧ (lk ||| x) ||| ((1 : Int32) <<< (nI a &&& 31)) = lk ||| x := by
  intro l hl
  rcases i5 l hl with y | ⟨a, a1, a2, a3⟩
  · exact Or.inl y
  · exact Or.inr ⟨a, a1, a2, pm_orK a3⟩
/-- a value -/
theorem pm_sVal {p k w L : Nat} (S : pm_Snd t n) (hT : ∀ j, T j = nI (t j)) (hc : ∀ j, t j < 65536) (hn : n ≤ 96) (hk : k < 96) (hw : w ≤ 11 * k) (I : pm_Iv t n p L w lk O M H R) (hp : p < n) (hb : t p = 123) (hv : t (p + 2) = 125) : pm_Nx t n r k p L w lb lk T V O H R M := by
  obtain ⟨i1, i2, i3, i4, i5⟩ := I
  obtain ⟨b1, b2, b3, b4, b5, b6⟩ := pm_brace S hp i2 hb
  have b7 : pm_st t (p + 3) = 0 ∧ pm_op t (p + 3) = pm_op t p := by
    rcases b6 with b6 | b6
    · exact b6.2
    · omega
  have hin : vp_in (nI p) 96 := vp_in_nI (by omega) (by decide)
  have hcl : T (nI p).toNatClampNeg = nI (t p) := by rw [nI_clamp (by omega)]; exact hT p
  have len := pm_nl_len (V (t (p + 1) - 48))
  refine ⟨p + 3, L, w + (pm_nl (V (t (p + 1) - 48))).length, lk ||| pm_bit (t (p + 1) - 48), pm_ps (pm_nl (V (t (p + 1) - 48))) O w, pm_ps (pm_nl (V (t (p + 1) - 48))) M w, H, R, ⟨by omega, b7.1, ?_, pm_Eq_ps _ i4, pm_IvB i5⟩, by omega, fun post f h => ?_, fun ln cs lf Q W post h => ?_⟩
  · refine pm_Ch_move i3 (by omega) b7.2 (fun x x1 x2 => ?_)
    rcases (by omega : x = p ∨ x = p + 1 ∨ x = p + 2) with y | y | y <;> rw [y] <;> omega
  · rw [wX_writeTemplate_16]
    refine pk_le 96 k (fun z => absurd z (by omega)) (fun _ => pk_le n p (fun z => absurd z (by omega)) (fun _ => ?_))
    refine pm_xTA hT hn hp ?_
    rw [hb]
    refine br_t rfl ?_
    rw [show nI p + 2 = nI (p + 2) from nI_add p 2, nI_1 p]
    refine pm_xTA hT hn b1 ?_
    rw [hv]
    refine br_t rfl ?_
    refine pm_xAA hT hn (by omega) b2 b3 ?_
    refine pm_xWV (by omega) (by omega) ?_
    exact nm_r (nI_add p 3) (nm_r (nI_1 k) h)
  · unfold wpY_step
    dsimp only
    rw [hcl, hb]
    refine ⟨hin, br_f (by decide) ⟨hin, br_t rfl ?_⟩⟩
    rw [nI_1 p, show nI p + 2 = nI (p + 2) from nI_add p 2]
    refine pm_yTA hT hn (by omega) ?_
    refine nm_r (pm_and3 b2 b3) (nm_e ?_)
    refine pm_yTA hT hn b1 ?_
    rw [hv]
    refine br_t rfl ⟨vp_in_nI (by omega) (by decide), ?_⟩
    rw [nI_clamp (n := t (p + 1) - 48) (by omega)]
    refine pm_yPN (by omega) ?_
    rw [show nI p + 3 = nI (p + 3) from nI_add p 3]
    exact h
/-- a choice -/
theorem pm_sEnter {p k w L : Nat} (S : pm_Snd t n) (hT : ∀ j, T j = nI (t j)) (hc : ∀ j, t j < 65536) (hn : n ≤ 96) (hr : r ≤ 2) (hk : k < 96) (I : pm_Iv t n p L w lk O M H R) (hp : p < n) (hb : t p = 123) (hv : t (p + 2) ≠ 125) : pm_Nx t n r k p L w lb lk T V O H R M := by
  obtain ⟨i1, i2, i3, i4, i5⟩ := I
  obtain ⟨b1, b2, b3, b4, b5, b6⟩ := pm_brace S hp i2 hb
  have K := pm_Ky0 S hp i2 hb hv
  have lo := pm_Ch_op i3
  have hI := pm_SndI S (k := p + 1) (by omega)
  obtain ⟨e1, e2, e3, e4, e5⟩ := pm_cend S hp hb
  have hin : vp_in (nI p) 96 := vp_in_nI (by omega) (by decide)
  have hcl : T (nI p).toNatClampNeg = nI (t p) := by rw [nI_clamp (by omega)]; exact hT p
  have yst : ∀ (ln cs lf : Int32) (Q W : Nat → Int32) (post : Int32 → SY → Prop), post (pm_fi t n p (pm_br t n p (V (t (p + 1) - 48)) (pm_lt r (t (p + 2)) (V (t (p + 1) - 48))))) (nI r, nI n, ln, cs, lf, nI w, lk ||| pm_bit (t (p + 1) - 48), T, V, Q, W, M) → wpY_step post (nI r, nI n, ln, cs, lf, nI w, lk, T, V, Q, W, M) (nI p) := by
    intro ln cs lf Q W post h
    have hc2 := hc (p + 2)
    unfold wpY_step
    dsimp only
    rw [hcl, hb]
    refine ⟨hin, br_f (by decide) ⟨hin, br_t rfl ?_⟩⟩
    rw [nI_1 p, show nI p + 2 = nI (p + 2) from nI_add p 2]
    refine pm_yTA hT hn (by omega) ?_
    refine nm_r (pm_and3 b2 b3) (nm_e ?_)
    refine pm_yTA hT hn b1 ?_
    refine pk_eq (t (p + 2)) 125 (fun z => absurd z hv) (fun _ => ⟨vp_in_nI (by omega) (by decide), ?_⟩)
    rw [nI_clamp (n := t (p + 1) - 48) (by omega)]
    exact pm_yCh S hT hc hn hr b1 hb K h
  cases e : pm_br t n p (V (t (p + 1) - 48)) (pm_lt r (t (p + 2)) (V (t (p + 1) - 48))) with
  | none =>
    rw [e] at yst
    refine ⟨pm_mt 123 125 t n p + 1, L, w, lk ||| pm_bit (t (p + 1) - 48), O, M, H, R, ⟨by omega, e4, ?_, i4, pm_IvB i5⟩, by omega, fun post f h => ?_, yst⟩
    · refine pm_Ch_move i3 (by omega) e3 (fun x x1 x2 => ?_)
      rcases Nat.eq_or_lt_of_le x1 with y | y
      · rw [← y]; exact Int.le_refl _
      · have := e5 x y (by omega); omega
    · refine pm_xO75 S hT hc hn hk hp i2 (fun _ => hv) ?_
      rw [hb]
      unfold wX_writeTemplate_75
      refine br_t rfl ?_
      refine pm_xEn S hT hc hn hr hp i2 hb hv (by omega) (fun _ => nm_r (nI_1 k) h) (fun b y => ?_)
      rw [e] at y
      exact nomatch y
  | some b =>
    rw [e] at yst
    have inb : pm_In t n p b := by
      unfold pm_br at e
      cases e' : pm_fd t n (pm_P3 t (V (t (p + 1) - 48))) 96 (p + 3) with
      | some x =>
        rw [e'] at e
        have : x = b := Option.some.inj e
        subst this
        exact pm_fd_in S _ 96 (p + 3) x K e'
      | none =>
        rw [e'] at e
        cases e'' : pm_fd t n (pm_P2 t (pm_lt r (t (p + 2)) (V (t (p + 1) - 48)))) 96 (p + 3) with
        | some x =>
          rw [e''] at e
          have : x = b := Option.some.inj e
          subst this
          exact pm_fd_in S _ 96 (p + 3) x K e''
        | none =>
          rw [e''] at e
          exact pm_fd_in S _ 96 (p + 3) b K e
    obtain ⟨n1, n2, n3, n4, n5⟩ := inb
    refine ⟨b, L + 1, w, lk ||| pm_bit (t (p + 1) - 48), O, M, upd H (L + 1) (if t (p + 2) = 63 then nI (t (p + 1) - 48) else H L), upd R (L + 1) (nI (pm_mt 123 125 t n p + 1)), ⟨n2, n3, ?_, i4, ?_⟩, by omega, fun post f h => ?_, yst⟩
    · refine pm_Ch_push (pm_Ch_congr L p (fun j hj => pk_un (by omega)) (fun j hj => pk_un (by omega)) i3) hp hb i2 n1 n4 n5 pk_us (fun z => ?_) (fun z => ?_)
      · rw [pk_us, if_pos z]
      · rw [pk_us, if_neg z, pk_un (by omega)]
    · intro l hl
      rcases Nat.lt_or_ge l (L + 1) with y | y
      · rw [pk_un (by omega)]
        exact pm_IvB i5 l (by omega)
      · have : l = L + 1 := by omega
        subst this
        rw [pk_us]
        by_cases z : t (p + 2) = 63
        · rw [if_pos z]
          exact Or.inr ⟨_, by omega, rfl, pm_orS _ _⟩
        · rw [if_neg z]
          exact pm_IvB i5 L (Nat.le_refl L)
    · refine pm_xO75 S hT hc hn hk hp i2 (fun _ => hv) ?_
      rw [hb]
      unfold wX_writeTemplate_75
      refine br_t rfl ?_
      refine pm_xEn S hT hc hn hr hp i2 hb hv (by omega) (fun y => ?_) (fun b' y => ?_)
      · rw [e] at y; exact nomatch y
      · rw [e] at y
        have : b = b' := Option.some.inj y
        subst this
        exact ⟨by omega, nm_r (nI_1 k) h⟩
/-- the number sign in the reference -/
theorem pm_yPS41 {post : SY → Prop} {w c : Nat} (S : pm_Snd t n) (hT : ∀ j, T j = nI (t j)) (hn : n ≤ 96) (hw : w < 60000) (hc1 : c < n) (hc2 : t c = 123) (hc3 : pm_st t c = 0) (h : post (nI r, nI n, ln, cs, lf, nI (w + (pm_nl (V (t (c + 1) - 48))).length), lk, T, V, Q, W, pm_ps (pm_nl (V (t (c + 1) - 48))) M w)) : wY_putSign_41 post (nI c) (nI r) (nI n) ln cs lf (nI w) lk T V Q W M := by
  obtain ⟨b1, b2, b3, b4, b5, b6⟩ := pm_brace S hc1 hc3 hc2
  unfold wY_putSign_41
  refine br_t (nI_pos' (by omega)) ?_
  rw [nI_1 c]
  refine pm_yTA hT hn (by omega) ?_
  refine nm_e ?_
  rw [pm_and3 b2 b3, nI_clamp (n := t (c + 1) - 48) (by omega)]
  exact ⟨vp_in_nI (by omega) (by decide), pm_yPN hw h⟩
theorem pm_yPS8 {post : SY → Prop} {w : Nat} (S : pm_Snd t n) (hT : ∀ j, T j = nI (t j)) (hc : ∀ j, t j < 65536) (hn : n ≤ 96) (hw : w < 60000) : ∀ l i k : Nat, i ≤ n → pm_Ch t n H R l i → k + l ≤ 5 → (H l = -1 → post (nI r, nI n, ln, cs, lf, nI (w + 1), lk, T, V, Q, W, pm_pt M w 35)) → (∀ a, a < 4 → H l = nI a → post (nI r, nI n, ln, cs, lf, nI (w + (pm_nl (V a)).length), lk, T, V, Q, W, pm_ps (pm_nl (V a)) M w)) → ∀ f, l < f → wY_putSign_8 post (nI r) (nI n) ln cs lf (nI w) lk T V Q W M f (pm_en (pm_ar t i)) (nI k) := by
  intro l
  induction l with
  | zero =>
    intro i k hi C hk h0 h1 f hf
    obtain ⟨f, rfl⟩ : ∃ x, f = x + 1 := ⟨f - 1, by omega⟩
    have an : pm_ar t i = none := pm_ar_none (fun j hj => by
      have := pm_SndI S (k := j) (by omega)
      have := C.1
      omega)
    have p41 : wY_putSign_41 post (-1) (nI r) (nI n) ln cs lf (nI w) lk T V Q W M := by
      unfold wY_putSign_41
      exact br_f (by decide) (pm_yPut (c := 35) (by omega) (h0 C.2))
    rw [an, wY_putSign_8]
    exact br_c (fun _ => p41) (fun _ => br_t (by decide) p41)
  | succ l ih =>
    intro i k hi C hk h0 h1 f hf
    obtain ⟨f, rfl⟩ : ∃ x, f = x + 1 := ⟨f - 1, by omega⟩
    obtain ⟨j0, c, j1, j2, j3, j4, j5, j6, j7, j8⟩ := C
    obtain ⟨b1, b2, b3, b4, b5, b6⟩ := pm_brace S j4 j3 j2
    have hc2 := hc (c + 2)
    rw [pm_ar_some j1, wY_putSign_8]
    refine pk_le 5 k (fun z => absurd z (by omega)) (fun _ => pk_lt c 0 (fun z => absurd z (by omega)) (fun _ => ?_))
    show wpY_textAt _ _ (nI c + 2)
    rw [show nI c + 2 = nI (c + 2) from nI_add c 2]
    refine pm_yTA hT hn b1 ?_
    refine pk_eq (t (c + 2)) 63 (fun z => ?_) (fun z => ?_)
    · exact pm_yPS41 S hT hn hw j4 j2 j3 (h1 _ (by omega) (j6 z))
    · refine pm_yAr hT hc (by omega) (nm_r (nI_1 k) ?_)
      exact ih c (k + 1) (by omega) j8 (by omega) (fun y => h0 (by rw [j7 z]; exact y)) (fun a a1 a2 => h1 a a1 (by rw [j7 z]; exact a2)) f (by omega)
theorem pm_yPS {post : SY → Prop} {w l p : Nat} (S : pm_Snd t n) (hT : ∀ j, T j = nI (t j)) (hc : ∀ j, t j < 65536) (hn : n ≤ 96) (hw : w < 60000) (hp : p ≤ n) (C : pm_Ch t n H R l p) (hl : l ≤ 4) (h0 : H l = -1 → post (nI r, nI n, ln, cs, lf, nI (w + 1), lk, T, V, Q, W, pm_pt M w 35)) (h1 : ∀ a, a < 4 → H l = nI a → post (nI r, nI n, ln, cs, lf, nI (w + (pm_nl (V a)).length), lk, T, V, Q, W, pm_ps (pm_nl (V a)) M w)) : wpY_putSign post (nI r, nI n, ln, cs, lf, nI w, lk, T, V, Q, W, M) (nI p) := by
  unfold wpY_putSign
  refine pm_yAr hT hc (by omega) ⟨6, ?_⟩
  exact pm_yPS8 S hT hc hn hw l p 0 hp C (by omega) h0 h1 6 (by omega)
/-- a plain character or a number sign -/
theorem pm_sChar {p k w L : Nat} (S : pm_Snd t n) (hT : ∀ j, T j = nI (t j)) (hc : ∀ j, t j < 65536) (hn : n ≤ 96) (hk : k < 96) (hw : w ≤ 11 * k) (I : pm_Iv t n p L w lk O M H R) (hp : p < n) (hb : t p ≠ 123) (h41 : t p ≠ 41) : pm_Nx t n r k p L w lb lk T V O H R M := by
  obtain ⟨i1, i2, i3, i4, i5⟩ := I
  obtain ⟨m1, m2, m3⟩ := pm_mess S hp i2 hb h41
  have lo := pm_Ch_op i3
  have hI := pm_SndI S i1
  have hcp := hc p
  have hin : vp_in (nI p) 96 := vp_in_nI (by omega) (by decide)
  have hcl : T (nI p).toNatClampNeg = nI (t p) := by rw [nI_clamp (by omega)]; exact hT p
  have c3 : pm_Ch t n H R L (p + 1) := pm_Ch_move i3 (by omega) m3 (fun x x1 x2 => by rw [show x = p by omega]; exact Int.le_refl _)
  have xo : ∀ (post : SX → Prop) (f : Nat), wX_writeCharacter_28 (fun u => match u with | (f_ruleSet, f_typed, f_written, f_lookedAtByLatest, f_level, f_lookedAt, a_template, a_values, a_output, a_hashArgument, a_resumeAt) => ∀ x1_32 : Int32, x1_32 = nI p + 1 → ∀ x2_33 : Int32, x2_33 = nI k + 1 → wX_writeTemplate_16 post f x1_32 x2_33 f_ruleSet f_typed f_written f_lookedAtByLatest f_level f_lookedAt a_template a_values a_output a_hashArgument a_resumeAt) (nI (t p)) (H L) (nI r) (nI n) (nI w) lb (nI L) lk T V O H R → wX_writeTemplate_16 post (f + 1) (nI p) (nI k) (nI r) (nI n) (nI w) lb (nI L) lk T V O H R := by
    intro post f h
    refine pm_xO75 S hT hc hn hk hp i2 (fun z => absurd z hb) ?_
    unfold wX_writeTemplate_75
    refine pk_eq (t p) 123 (fun z => absurd z hb) (fun _ => pk_eq (t p) 41 (fun z => absurd z h41) (fun _ => ?_))
    unfold wpX_writeCharacter
    refine pk_lt L 0 (fun z => absurd z (by omega)) (fun _ => pk_le 5 L (fun z => absurd z (by omega)) (fun _ => ⟨vp_in_nI (by omega) (by decide), ?_⟩))
    rw [nI_clamp (n := L) (by omega)]
    exact h
  by_cases z : t p = 35
  · rcases i5 L (Nat.le_refl L) with y | ⟨a, a1, a2, a3⟩
    · refine ⟨p + 1, L, w + 1, lk, pm_pt O w 35, pm_pt M w 35, H, R, ⟨by omega, m2, c3, pm_Eq_pt 35 i4, i5⟩, by omega, fun post f h => xo post f ?_, fun ln cs lf Q W post h => ?_⟩
      · unfold wX_writeCharacter_28
        rw [z]
        refine br_t rfl (br_t y ?_)
        unfold wX_writeCharacter_48
        exact pm_xPut (c := 35) (by omega) (by decide) (nm_r (nI_1 p) (nm_r (nI_1 k) h))
      · unfold wpY_step
        dsimp only
        rw [hcl, z]
        refine ⟨hin, br_f (by decide) ⟨hin, br_f (by decide) ⟨hin, br_t rfl ?_⟩⟩⟩
        rw [nI_1 p]
        exact pm_yPS S hT hc hn (by omega) i1 i3 (by omega) (fun _ => h) (fun a a1 a2 => absurd (a2.symm.trans y) (pm_nm1 (by omega)))
    · have len := pm_nl_len (V a)
      refine ⟨p + 1, L, w + (pm_nl (V a)).length, lk, pm_ps (pm_nl (V a)) O w, pm_ps (pm_nl (V a)) M w, H, R, ⟨by omega, m2, c3, pm_Eq_ps _ i4, i5⟩, by omega, fun post f h => xo post f ?_, fun ln cs lf Q W post h => ?_⟩
      · unfold wX_writeCharacter_28
        rw [z, a2]
        refine br_t rfl (br_f (pm_nm1 (by omega)) ?_)
        refine pm_xWV a1 (by omega) ?_
        rw [a3]
        exact nm_r (nI_1 p) (nm_r (nI_1 k) h)
      · unfold wpY_step
        dsimp only
        rw [hcl, z]
        refine ⟨hin, br_f (by decide) ⟨hin, br_f (by decide) ⟨hin, br_t rfl ?_⟩⟩⟩
        rw [nI_1 p]
        refine pm_yPS S hT hc hn (by omega) i1 i3 (by omega) (fun y => absurd (a2.symm.trans y) (pm_nm1 (by omega))) (fun b b1 b2 => ?_)
        have : a = b := (nI_eq (by omega) (by omega)).mp (a2.symm.trans b2)
        subst this
        exact h
  · refine ⟨p + 1, L, w + 1, lk, pm_pt O w (t p), pm_pt M w (t p), H, R, ⟨by omega, m2, c3, pm_Eq_pt (t p) i4, i5⟩, by omega, fun post f h => xo post f ?_, fun ln cs lf Q W post h => ?_⟩
    · unfold wX_writeCharacter_28
      refine pk_eq (t p) 35 (fun y => absurd y z) (fun _ => ?_)
      unfold wX_writeCharacter_48
      exact pm_xPut (by omega) hcp (nm_r (nI_1 p) (nm_r (nI_1 k) h))
    · unfold wpY_step
      dsimp only
      rw [hcl]
      refine ⟨hin, pk_eq (t p) 41 (fun y => absurd y h41) (fun _ => ⟨hin, pk_eq (t p) 123 (fun y => absurd y hb) (fun _ => ⟨hin, pk_eq (t p) 35 (fun y => absurd y z) (fun _ => ⟨hin, ?_⟩)⟩)⟩)⟩
      rw [nI_1 p]
      exact pm_yPut (by omega) h
theorem pm_sAny {p k w L : Nat} (S : pm_Snd t n) (hT : ∀ j, T j = nI (t j)) (hc : ∀ j, t j < 65536) (hn : n ≤ 96) (hr : r ≤ 2) (hk : k < 96) (hw : w ≤ 11 * k) (I : pm_Iv t n p L w lk O M H R) (hp : p < n) : pm_Nx t n r k p L w lb lk T V O H R M := by
  by_cases z : t p = 123
  · by_cases y : t (p + 2) = 125
    · exact pm_sVal S hT hc hn hk hw I hp z y
    · exact pm_sEnter S hT hc hn hr hk I hp z y
  · by_cases y : t p = 41
    · exact pm_sLeave S hT hc hn hk I hp y
    · exact pm_sChar S hT hc hn hk hw I hp z y
end
