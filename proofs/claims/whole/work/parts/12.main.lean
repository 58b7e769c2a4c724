/-! the main loops, format, named, type: one lemma a side -/
section
variable {lb lv lk ln cs lf ct lo : Int32} {T V O H R Q W M : Nat → Int32} {t : Nat → Nat} {n r : Nat}
theorem pm_main (S : pm_Snd t n) (hT : ∀ j, T j = nI (t j)) (hc : ∀ j, t j < 65536) (hn : n ≤ 96) (hr : r ≤ 2) : ∀ (d k p L w : Nat) (lk : Int32) (O M H R : Nat → Int32), k + d = 96 → w ≤ 11 * k → pm_Iv t n p L w lk O M H R →
    ∃ (w' L' : Nat) (lk' : Int32) (O' M' H' R' : Nat → Int32), w' ≤ 1056 ∧ pm_Eq O' M' w'
      ∧ (∀ post : SX → Prop, post (nI r, nI n, nI w', lb, nI L', lk', T, V, O', H', R') → ∀ f, d < f → wX_writeTemplate_16 post f (nI p) (nI k) (nI r) (nI n) (nI w) lb (nI L) lk T V O H R)
      ∧ (∀ (ln cs lf : Int32) (Q W : Nat → Int32) (post : Int32 → SY → Prop), wY_format_50 post (nI r) (nI n) ln cs lf (nI w') lk' T V Q W M' → ∀ f, d < f → wY_format_24 post f (nI p) (nI k) (nI r) (nI n) ln cs lf (nI w) lk T V Q W M) := by
  intro d
  induction d with
  | zero =>
    intro k p L w lk O M H R hk hw I
    refine ⟨w, L, lk, O, M, H, R, by omega, I.2.2.2.1, fun post h f hf => ?_, fun ln cs lf Q W post h f hf => ?_⟩
    · obtain ⟨f, rfl⟩ : ∃ x, f = x + 1 := ⟨f - 1, by omega⟩
      rw [wX_writeTemplate_16]
      exact pk_le 96 k (fun _ => h) (fun z => absurd z (by omega))
    · obtain ⟨f, rfl⟩ : ∃ x, f = x + 1 := ⟨f - 1, by omega⟩
      rw [wY_format_24]
      exact pk_le 96 k (fun _ => h) (fun z => absurd z (by omega))
  | succ d ih =>
    intro k p L w lk O M H R hk hw I
    have hpn := I.1
    rcases Nat.lt_or_ge p n with hp | hp
    · obtain ⟨p', L', w', lk', O', M', H', R', I', w1, hX, hY⟩ := pm_sAny (lb := lb) (V := V) S hT hc hn hr (by omega : k < 96) hw I hp
      obtain ⟨w2, L2, lk2, O2, M2, H2, R2, b2, e2, hX2, hY2⟩ := ih (k + 1) p' L' w' lk' O' M' H' R' (by omega) (by omega) I'
      refine ⟨w2, L2, lk2, O2, M2, H2, R2, b2, e2, fun post h f hf => ?_, fun ln cs lf Q W post h f hf => ?_⟩
      · obtain ⟨f, rfl⟩ : ∃ x, f = x + 1 := ⟨f - 1, by omega⟩
        exact hX post f (hX2 post h f (by omega))
      · obtain ⟨f, rfl⟩ : ∃ x, f = x + 1 := ⟨f - 1, by omega⟩
        rw [wY_format_24]
        refine pk_le 96 k (fun z => absurd z (by omega)) (fun _ => pk_le n p (fun z => absurd z (by omega)) (fun _ => ?_))
        refine hY ln cs lf Q W _ ?_
        exact nm_r (nI_1 k) (hY2 ln cs lf Q W post h f (by omega))
    · refine ⟨w, L, lk, O, M, H, R, by omega, I.2.2.2.1, fun post h f hf => ?_, fun ln cs lf Q W post h f hf => ?_⟩
      · obtain ⟨f, rfl⟩ : ∃ x, f = x + 1 := ⟨f - 1, by omega⟩
        rw [wX_writeTemplate_16]
        exact pk_le 96 k (fun _ => h) (fun _ => pk_le n p (fun _ => h) (fun z => absurd z (by omega)))
      · obtain ⟨f, rfl⟩ : ∃ x, f = x + 1 := ⟨f - 1, by omega⟩
        rw [wY_format_24]
        exact pk_le 96 k (fun _ => h) (fun _ => pk_le n p (fun _ => h) (fun z => absurd z (by omega)))
theorem pm_yF77 {post : Int32 → SY → Prop} {w : Nat} {ru nn : Int32} (hw : w ≤ 120) (h : ∀ Q' : Nat → Int32, (∀ j, j < w → Q' j = M j) → post (nI w) (ru, nn, ln, lo, lf, nI w, lo, T, V, Q', W, M)) : ∀ (d i : Nat) (Q : Nat → Int32), i + d = w → (∀ j, j < i → Q j = M j) → ∀ f, d < f → wY_format_77 post ru nn ln cs lf (nI w) lo f (nI i) T V Q W M := by
  intro d
  induction d with
  | zero =>
    intro i Q hi hQ f hf
    obtain ⟨f, rfl⟩ : ∃ x, f = x + 1 := ⟨f - 1, by omega⟩
    rw [wY_format_77]
    exact pk_le w i (fun _ => h Q (fun j hj => hQ j (by omega))) (fun z => absurd z (by omega))
  | succ d ih =>
    intro i Q hi hQ f hf
    obtain ⟨f, rfl⟩ : ∃ x, f = x + 1 := ⟨f - 1, by omega⟩
    have hin : vp_in (nI i) 120 := vp_in_nI (by omega) (by decide)
    rw [wY_format_77]
    dsimp only
    rw [nI_clamp (n := i) (by omega)]
    refine pk_le w i (fun z => absurd z (by omega)) (fun _ => ⟨hin, hin, nm_e (nm_r (nI_1 i) ?_)⟩)
    refine ih (i + 1) _ (by omega) (fun j hj => ?_) f (by omega)
    by_cases z : j = i
    · subst z; rw [pk_us]
    · rw [pk_un z]; exact hQ j (by omega)
theorem pm_brc {t : Nat → Nat} {n p : Nat} (S : pm_Snd t n) (hp : p < n) (h : t p = 123) : pm_st t p = 0 := by
  have s := pm_step t p (pm_accS S.2 hp)
  unfold pm_le pm_pl pm_dg at s
  omega
def pm_na (t : Nat → Nat) : Nat → Nat → Int32 → Int32
  | 0, _, x => x
  | d + 1, p, x => if t p = 123 then pm_na t d (p + 1) (x ||| pm_bit (t (p + 1) - 48)) else pm_na t d (p + 1) x
theorem pm_xNa {post : Int32 → Prop} {rs wr : Int32} (S : pm_Snd t n) (hT : ∀ j, T j = nI (t j)) (hc : ∀ j, t j < 65536) (hn : n ≤ 96) : ∀ (d p : Nat) (x : Int32), p + d = n → post (pm_na t d p x) → ∀ f, d < f → wX_named_13 post rs (nI n) wr lb lv lk T V O H R f x (nI p) := by
  intro d
  induction d with
  | zero =>
    intro p x hp h f hf
    obtain ⟨f, rfl⟩ : ∃ x, f = x + 1 := ⟨f - 1, by omega⟩
    rw [wX_named_13]
    exact pk_le n p (fun _ => h) (fun z => absurd z (by omega))
  | succ d ih =>
    intro p x hp h f hf
    obtain ⟨f, rfl⟩ : ∃ x, f = x + 1 := ⟨f - 1, by omega⟩
    have hin : vp_in (nI p) 96 := vp_in_nI (by omega) (by decide)
    have hcl : T (nI p).toNatClampNeg = nI (t p) := by rw [nI_clamp (by omega)]; exact hT p
    have hcp := hc p
    rw [wX_named_13]
    dsimp only
    rw [hcl]
    rw [pm_na] at h
    refine pk_le n p (fun z => absurd z (by omega)) (fun _ => ⟨hin, pk_eq (t p) 123 (fun e => ?_) (fun e => ?_)⟩)
    · rw [if_pos e] at h
      obtain ⟨b1, b2, b3, b4, b5, b6⟩ := pm_brace S (by omega) (pm_brc S (by omega) e) e
      rw [nI_1 p]
      refine pm_xAA hT hn (by omega) b2 b3 (nm_e (nm_e ?_))
      exact ih (p + 1) _ (by omega) h f (by omega)
    · rw [if_neg e] at h
      exact nm_r (nI_1 p) (ih (p + 1) _ (by omega) h f (by omega))
theorem pm_yNa {post : Int32 → SY → Prop} {ru : Int32} (S : pm_Snd t n) (hT : ∀ j, T j = nI (t j)) (hc : ∀ j, t j < 65536) (hn : n ≤ 96) : ∀ (d p : Nat) (x : Int32), p + d = n → post (pm_na t d p x) (ru, nI n, ln, cs, lf, ct, lo, T, V, Q, W, M) → ∀ f, d < f → wY_named_13 post ru (nI n) ln cs lf ct lo T V Q W M f x (nI p) := by
  intro d
  induction d with
  | zero =>
    intro p x hp h f hf
    obtain ⟨f, rfl⟩ : ∃ x, f = x + 1 := ⟨f - 1, by omega⟩
    rw [wY_named_13]
    exact pk_le n p (fun _ => h) (fun z => absurd z (by omega))
  | succ d ih =>
    intro p x hp h f hf
    obtain ⟨f, rfl⟩ : ∃ x, f = x + 1 := ⟨f - 1, by omega⟩
    have hin : vp_in (nI p) 96 := vp_in_nI (by omega) (by decide)
    have hcl : T (nI p).toNatClampNeg = nI (t p) := by rw [nI_clamp (by omega)]; exact hT p
    have hcp := hc p
    rw [wY_named_13]
    dsimp only
    rw [hcl]
    rw [pm_na] at h
    refine pk_le n p (fun z => absurd z (by omega)) (fun _ => ⟨hin, pk_eq (t p) 123 (fun e => ?_) (fun e => ?_)⟩)
    · rw [if_pos e] at h
      obtain ⟨b1, b2, b3, b4, b5, b6⟩ := pm_brace S (by omega) (pm_brc S (by omega) e) e
      rw [nI_1 p]
      refine pm_yTA hT hn (by omega) ?_
      rw [pm_and3 b2 b3]
      exact nm_e (nm_e (ih (p + 1) _ (by omega) h f (by omega)))
    · rw [if_neg e] at h
      exact nm_r (nI_1 p) (ih (p + 1) _ (by omega) h f (by omega))
/-! type -/
abbrev pm_ok (c : Nat) : Prop := pm_pl c ∨ pm_mk c
theorem pm_xTy {post : Int32 → SX → Prop} {rs wr : Int32} {c : Nat} (hn : n ≤ 96) (hc : c < 65536) (hv : vp_nar .char (nI c) = nI c) (hF : n = 96 → post (-1) (rs, nI n, wr, lb, lv, lk, T, V, O, H, R)) (hB : n < 96 → ¬ pm_ok c → post (-2) (rs, nI n, wr, lb, lv, lk, T, V, O, H, R)) (hG : n < 96 → pm_ok c → post (nI (n + 1)) (rs, nI (n + 1), wr, lb, lv, lk, upd T n (nI c), V, O, H, R)) : wpX_type post (rs, nI n, wr, lb, lv, lk, T, V, O, H, R) (nI c) := by
  have g28 : n < 96 → pm_ok c → wX_type_28 post (nI c) rs (nI n) wr lb lv lk T V O H R := by
    intro h1 h2
    unfold wX_type_28
    rw [nI_clamp (n := n) (by omega), hv]
    exact ⟨vp_in_nI h1 (by decide), nm_e (nm_r (nI_1 n) (hG h1 h2))⟩
  unfold wpX_type
  refine pk_lt n 96 (fun h1 => ?_) (fun h1 => hF (by omega))
  refine pm_xPl hc (fun g => ?_) (fun g => ?_)
  · exact br_f (by decide) (g28 h1 (Or.inl g))
  · refine br_t rfl ?_
    refine pm_xMk hc (fun k => ?_) (fun k => ?_)
    · exact br_f (by decide) (g28 h1 (Or.inr k))
    · exact br_t rfl (hB h1 (fun z => z.elim g k))
theorem pm_yTy {post : Int32 → SY → Prop} {ru : Int32} {c : Nat} (hn : n ≤ 96) (hc : c < 65536) (hF : n = 96 → post (-1) (ru, nI n, ln, cs, lf, ct, lo, T, V, Q, W, M)) (hB : n < 96 → ¬ pm_ok c → post (-2) (ru, nI n, ln, cs, lf, ct, lo, T, V, Q, W, M)) (hG : n < 96 → pm_ok c → post (nI (n + 1)) (ru, nI (n + 1), ln, cs, lf, ct, lo, upd T n (nI c), V, Q, W, M)) : wpY_type post (ru, nI n, ln, cs, lf, ct, lo, T, V, Q, W, M) (nI c) := by
  have g80 : n < 96 → pm_ok c → wY_type_80 post (nI c) ru (nI n) ln cs lf ct lo T V Q W M := by
    intro h1 h2
    unfold wY_type_80
    rw [nI_clamp (n := n) (by omega)]
    exact ⟨vp_in_nI h1 (by decide), nm_e (nm_r (nI_1 n) (hG h1 h2))⟩
  have g59 : n < 96 → pm_mk c → wY_type_59 post (nI c) ru (nI n) ln cs lf ct lo T V Q W M := by
    intro h1 h2
    unfold wY_type_59 wY_type_64
    refine pm_yPl hc (fun g => ?_) (fun g => ?_)
    · exact br_f (by decide) (g80 h1 (Or.inl g))
    · exact br_t rfl (br_f (by decide) (g80 h1 (Or.inr h2)))
  unfold wpY_type
  refine pk_eq n 96 (fun e => hF e) (fun e => ?_)
  have h1 : n < 96 := by omega
  refine pk_eq c 35 (fun z => g59 h1 (by unfold pm_mk; omega)) (fun z1 => ?_)
  refine pk_eq c 123 (fun z => g59 h1 (by unfold pm_mk; omega)) (fun z2 => ?_)
  refine pk_eq c 125 (fun z => g59 h1 (by unfold pm_mk; omega)) (fun z3 => ?_)
  refine pk_eq c 40 (fun z => g59 h1 (by unfold pm_mk; omega)) (fun z4 => ?_)
  refine pk_eq c 41 (fun z => g59 h1 (by unfold pm_mk; omega)) (fun z5 => ?_)
  refine pk_eq c 63 (fun z => g59 h1 (by unfold pm_mk; omega)) (fun z6 => ?_)
  refine pk_eq c 58 (fun z => g59 h1 (by unfold pm_mk; omega)) (fun z7 => ?_)
  refine pk_eq c 61 (fun z => g59 h1 (by unfold pm_mk; omega)) (fun z8 => ?_)
  unfold wY_type_64
  refine pm_yPl hc (fun g => ?_) (fun g => ?_)
  · exact br_f (by decide) (g80 h1 (Or.inl g))
  · exact br_t rfl (br_t rfl (hB h1 (fun z => z.elim g (fun k => by unfold pm_mk at k; omega))))
end
