/-! one character, one number, on both sides -/
theorem pm_nar {c : Nat} (hc : c < 65536) : vp_nar .char (((nI c).toUInt32 % 65536).toInt32) = nI c := by
  rw [pk_vc, pk_char, pk_tn (by omega), Nat.mod_eq_of_lt hc]
theorem pm_dig (m k : Nat) (hm : m ≤ 2147483648) (hk : k ≤ 9) : 48 + (lN m / lN (10 ^ k) - lN m / lN (10 ^ k) / 10 * 10).toInt32 = nI (48 + m / 10 ^ k % 10) ∧ (lN m / lN (10 ^ k) - lN m / lN (10 ^ k) / 10 * 10).toInt32 = nI (m / 10 ^ k % 10) := by
  have p := pm_p10 k hk
  have q : m / 10 ^ k ≤ m := Nat.div_le_self _ _
  have e : lN m / lN (10 ^ k) - lN m / lN (10 ^ k) / 10 * 10 = lN (m / 10 ^ k % 10) := by
    rw [pk_lDiv (by omega) (by omega) (by omega)]
    exact pk_lRem (b := 10) (by omega) (by decide) (by decide)
  rw [e, lN_i]
  exact ⟨nI_add 48 _, rfl⟩
section
variable {rs ty wr lb lv lk : Int32} {T V O H R : Nat → Int32}
theorem pm_xPut {post : SX → Prop} {w c : Nat} (hw : w < 65536) (hc : c < 65536) (h : post (rs, ty, nI (w + 1), lb, lv, lk, T, V, pm_pt O w c, H, R)) : wpX_write post (rs, ty, nI w, lb, lv, lk, T, V, O, H, R) (nI c) := by
  unfold wpX_write
  refine pk_lt w 0 (fun z => absurd z (by omega)) (fun _ => pk_le 120 w (fun g => nm_r (nI_1 w) ?_) (fun g => ⟨vp_in_nI g (by decide), nm_r (e' := pm_pt O w c) ?_ (nm_r (nI_1 w) h)⟩))
  · rw [pm_pt, if_neg (by omega)] at h; exact h
  · rw [pm_pt, if_pos g, nI_clamp (by omega), pm_nar hc]
theorem pm_xWV52 {post : SX → Prop} {m : Nat} (hm : m ≤ 2147483648) : ∀ (k w : Nat) (O : Nat → Int32), k ≤ 10 → w + k < 65536 → post (rs, ty, nI (w + (pm_dl m k).length), lb, lv, lk, T, V, pm_ps (pm_dl m k) O w, H, R) → ∀ f, k < f → wX_writeValue_52 post (lN m) f (lN (pm_un k)) rs ty (nI w) lb lv lk T V O H R := by
  intro k
  induction k with
  | zero =>
    intro w O hk hw h f hf
    obtain ⟨f, rfl⟩ : ∃ x, f = x + 1 := ⟨f - 1, by omega⟩
    rw [wX_writeValue_52]
    exact br_t (by decide) h
  | succ k ih =>
    intro w O hk hw h f hf
    obtain ⟨f, rfl⟩ : ∃ x, f = x + 1 := ⟨f - 1, by omega⟩
    have p := pm_p10 k (by omega)
    have ul : pm_un (k + 1) = 10 ^ k := rfl
    have dv : lN (pm_un (k + 1)) / 10 = lN (pm_un k) := by
      rw [← pm_un_div k]
      exact pk_lDiv (b := 10) (by omega) (by decide) (by decide)
    have put : (k = 0 ∨ 10 ^ k ≤ m) → wX_writeValue_73 post (wX_writeValue_52 post (lN m) f) (lN m) (lN (pm_un (k + 1))) rs ty (nI w) lb lv lk T V O H R := by
      intro c
      have ed : pm_dl m (k + 1) = (48 + m / 10 ^ k % 10) :: pm_dl m k := by rw [pm_dl, if_pos c]; rfl
      rw [ed] at h
      unfold wX_writeValue_73
      refine ⟨?_, by decide, ?_⟩
      · exact fun z => absurd ((pk_lEQ (b := 0) (by omega) (by decide)).mp z) (by omega)
      · rw [ul, (pm_dig m k hm (by omega)).1, ← ul]
        refine pm_xPut (by omega) (by omega) ⟨by decide, nm_r dv ?_⟩
        refine ih (w + 1) _ (by omega) (by omega) ?_ f (by omega)
        rw [List.length_cons, show w + ((pm_dl m k).length + 1) = w + 1 + (pm_dl m k).length by omega] at h
        exact h
    rw [wX_writeValue_52]
    refine br_f ?_ (br_c (fun e => put (Or.inl ?_)) (fun e => br_c (fun g => ⟨by decide, nm_r dv ?_⟩) (fun g => put (Or.inr ?_))))
    · exact fun z => absurd ((pk_lLT (b := 1) (by omega) (by decide)).mp z) (by omega)
    · exact (pm_un1 k).mp ((pk_lEQ (b := 1) (by omega) (by decide)).mp e)
    · have g' := (pk_lLT (by omega) (by omega)).mp g
      have c : ¬ (k = 0 ∨ 10 ^ k ≤ m) := by
        intro z
        rcases z with z | z
        · exact e (by rw [(pm_un1 k).mpr z]; rfl)
        · omega
      have ed : pm_dl m (k + 1) = pm_dl m k := by rw [pm_dl, if_neg c]; rfl
      rw [ed] at h
      exact ih w O (by omega) (by omega) h f (by omega)
    · have g' : ¬ m < 10 ^ k := fun z => g ((pk_lLT (by omega) (by omega)).mpr z)
      omega
theorem pm_xWS {post : Int64 → Prop} {v : Int32} (h : post (lN v.toInt.natAbs)) : wpX_withoutSign post v := by
  unfold wpX_withoutSign
  have e : (0 : Int64) ≤ v.toInt64 ↔ ¬ v < 0 := by rw [← pm_lltZ, Int64.not_lt]
  refine br_c (fun g => ?_) (fun g => ?_)
  · rw [pm_absP v (e.mp g)]; exact h
  · have : v < 0 := Decidable.of_not_not (fun z => g (e.mpr z))
    rw [pm_absM v this]; exact h
theorem pm_xWV {post : SX → Prop} {w a : Nat} (ha : a < 4) (hw : w < 60000) (h : post (rs, ty, nI (w + (pm_nl (V a)).length), lb, lv, lk ||| ((1 : Int32) <<< (nI a &&& 31)), T, V, pm_ps (pm_nl (V a)) O w, H, R)) : wpX_writeValue post (rs, ty, nI w, lb, lv, lk, T, V, O, H, R) (nI a) := by
  have b := pm_absB (V a)
  have hin : vp_in (nI a) 4 := vp_in_nI ha (by decide)
  have hcl : (nI a).toNatClampNeg = a := nI_clamp (by omega)
  unfold wpX_writeValue
  dsimp only
  rw [hcl]
  refine pk_lt a 0 (fun z => absurd z (by omega)) (fun _ => pk_lt a 4 (fun _ => nm_e ⟨hin, ?_⟩) (fun z => absurd z (by omega)))
  refine pm_xWS ⟨hin, ?_⟩
  have u10 : (1000000000 : Int64) = lN (pm_un 10) := rfl
  refine br_c (fun g => ⟨11, ?_⟩) (fun g => ?_)
  · have n : ¬ V a < 0 := Int32.not_lt.mpr g
    have e : pm_nl (V a) = pm_dl (V a).toInt.natAbs 10 := by unfold pm_nl; rw [if_neg n]; rfl
    rw [e] at h
    rw [u10]
    exact pm_xWV52 b 10 w O (by omega) (by omega) h 11 (by omega)
  · have n : V a < 0 := Int32.not_le.mp g
    have e : pm_nl (V a) = 45 :: pm_dl (V a).toInt.natAbs 10 := by unfold pm_nl; rw [if_pos n]; rfl
    rw [e, List.length_cons] at h
    refine pm_xPut (c := 45) (by omega) (by decide) ⟨11, ?_⟩
    rw [u10]
    refine pm_xWV52 b 10 (w + 1) _ (by omega) (by omega) ?_ 11 (by omega)
    rw [show w + 1 + (pm_dl (V a).toInt.natAbs 10).length = w + ((pm_dl (V a).toInt.natAbs 10).length + 1) by omega]
    exact h
end
section
variable {ru nn ln cs lf ct lo : Int32} {T V Q W M : Nat → Int32}
theorem pm_yPut {post : SY → Prop} {w c : Nat} (hw : w < 65536) (h : post (ru, nn, ln, cs, lf, nI (w + 1), lo, T, V, Q, W, pm_pt M w c)) : wpY_put post (ru, nn, ln, cs, lf, nI w, lo, T, V, Q, W, M) (nI c) := by
  unfold wpY_put
  refine pk_le 120 w (fun g => nm_r (nI_1 w) ?_) (fun g => ⟨vp_in_nI g (by decide), nm_r (e' := pm_pt M w c) ?_ (nm_r (nI_1 w) h)⟩)
  · rw [pm_pt, if_neg (by omega)] at h; exact h
  · rw [pm_pt, if_pos g, nI_clamp (by omega)]
theorem pm_yPN34 {post : SY → Prop} {m : Nat} (hm : m ≤ 2147483648) : ∀ (k w : Nat) (M : Nat → Int32) (b : Int32), k ≤ 10 → w + k < 65536 → (1 ≤ k → (b ≠ 0 ↔ 10 ^ k ≤ m)) → post (ru, nn, ln, cs, lf, nI (w + (pm_dl m k).length), lo, T, V, Q, W, pm_ps (pm_dl m k) M w) → ∀ f, k < f → wY_putNumber_34 post (lN m) f (lN (pm_sc k)) b (nI (10 - k)) ru nn ln cs lf (nI w) lo T V Q W M := by
  intro k
  induction k with
  | zero =>
    intro w M b hk hw hb h f hf
    obtain ⟨f, rfl⟩ : ∃ x, f = x + 1 := ⟨f - 1, by omega⟩
    rw [wY_putNumber_34]
    exact br_t (by decide) h
  | succ k ih =>
    intro w M b hk hw hb h f hf
    obtain ⟨f, rfl⟩ : ∃ x, f = x + 1 := ⟨f - 1, by omega⟩
    have p := pm_p10 k (by omega)
    have ul : pm_sc (k + 1) = 10 ^ k := rfl
    have kk : nI (10 - (k + 1)) + 1 = nI (10 - k) := by rw [nI_1]; exact congrArg nI (by omega)
    have bg := pm_begun m k
    have hb := hb (by omega)
    have nx : ∀ (w' : Nat) (M' : Nat → Int32) (b' : Int32), w' + k < 65536 → (b' ≠ 0 ↔ (k = 0 ∨ 10 ^ k ≤ m)) → post (ru, nn, ln, cs, lf, nI (w' + (pm_dl m k).length), lo, T, V, Q, W, pm_ps (pm_dl m k) M' w') → wY_putNumber_81 post (wY_putNumber_34 post (lN m) f) (lN m) (lN (pm_sc (k + 1))) b' (nI (10 - (k + 1))) ru nn ln cs lf (nI w') lo T V Q W M' := by
      intro w' M' b' hw' hb' h'
      unfold wY_putNumber_81
      cases k with
      | zero =>
        refine br_t rfl (nm_r kk ?_)
        exact ih w' M' b' (by omega) (by omega) (fun z => absurd z (by omega)) h' f (by omega)
      | succ k =>
        refine br_f ?_ ⟨by decide, nm_r (e' := lN (pm_sc (k + 1))) ?_ (nm_r kk ?_)⟩
        · intro z
          have z' := (pk_lEQ (b := 1) (by omega) (by decide)).mp z
          have := (pm_un1 (k + 1)).mp z'
          omega
        · rw [show pm_sc (k + 1) = pm_un (k + 1) from rfl, ← pm_un_div (k + 1)]
          exact pk_lDiv (b := 10) (by omega) (by decide) (by decide)
        · refine ih w' M' b' (by omega) (by omega) (fun _ => ?_) h' f (by omega)
          rw [hb']
          exact ⟨fun z => z.elim (fun q => absurd q (by omega)) (fun q => q), Or.inr⟩
    have put : ∀ b' : Int32, b' ≠ 0 → (k = 0 ∨ 10 ^ k ≤ m) → wY_putNumber_67 post (wY_putNumber_34 post (lN m) f) (lN m) (lN (pm_sc (k + 1))) b' (nI (10 - (k + 1))) (nI (m / 10 ^ k % 10)) ru nn ln cs lf (nI w) lo T V Q W M := by
      intro b' hb' c
      have ed : pm_dl m (k + 1) = (48 + m / 10 ^ k % 10) :: pm_dl m k := by rw [pm_dl, if_pos c]; rfl
      rw [ed, List.length_cons, show w + ((pm_dl m k).length + 1) = w + 1 + (pm_dl m k).length by omega] at h
      unfold wY_putNumber_67
      refine br_f hb' ?_
      rw [show (48 : Int32) + nI (m / 10 ^ k % 10) = nI (48 + m / 10 ^ k % 10) from nI_add 48 _]
      exact pm_yPut (by omega) (nx (w + 1) _ b' (by omega) ⟨fun _ => c, fun _ => hb'⟩ h)
    rw [wY_putNumber_34]
    refine pk_le 10 (10 - (k + 1)) (fun z => absurd z (by omega)) (fun _ => ⟨?_, by decide, nm_r (e' := nI (m / 10 ^ k % 10)) (pm_dig m k hm (by omega)).2 ?_⟩)
    · exact fun z => absurd ((pk_lEQ (b := 0) (by omega) (by decide)).mp z) (by omega)
    · refine pk_lt 0 (m / 10 ^ k % 10) (fun g => ?_) (fun g => br_c (fun e => ?_) (fun e => ?_))
      · unfold wY_putNumber_64
        exact put 1 (by decide) (Or.inr (bg.mpr (Or.inr g)))
      · unfold wY_putNumber_64
        have e2 : pm_sc (k + 1) = 1 := (pk_lEQ (b := 1) (by omega) (by decide)).mp e
        exact put 1 (by decide) (Or.inl ((pm_un1 k).mp e2))
      · have k0 : k ≠ 0 := fun z => e (by subst z; rfl)
        by_cases c : b = 0
        · have c' : ¬ (k = 0 ∨ 10 ^ k ≤ m) := by
            intro z
            have := z.resolve_left k0
            have := (bg.mp this).resolve_right (by omega)
            exact hb.mpr this c
          have ed : pm_dl m (k + 1) = pm_dl m k := by rw [pm_dl, if_neg c']; rfl
          rw [ed] at h
          unfold wY_putNumber_67
          exact br_t c (nx w M b (by omega) ⟨fun z => absurd c z, fun z => absurd z c'⟩ h)
        · exact put b c (Or.inr (bg.mpr (Or.inl (hb.mp c))))
theorem pm_yPN {post : SY → Prop} {w : Nat} {v : Int32} (hw : w < 60000) (h : post (ru, nn, ln, cs, lf, nI (w + (pm_nl v).length), lo, T, V, Q, W, pm_ps (pm_nl v) M w)) : wpY_putNumber post (ru, nn, ln, cs, lf, nI w, lo, T, V, Q, W, M) v := by
  have b := pm_absB v
  have u10 : (1000000000 : Int64) = lN (pm_sc 10) := rfl
  have big : ¬ 10 ^ 10 ≤ v.toInt.natAbs := by omega
  unfold wpY_putNumber
  refine br_c (fun g => ?_) (fun g => ?_)
  · have n : ¬ v < 0 := Int32.not_lt.mpr g
    have e : pm_nl v = pm_dl v.toInt.natAbs 10 := by unfold pm_nl; rw [if_neg n]; rfl
    rw [e] at h
    unfold wY_putNumber_12
    rw [pm_absP v n, u10]
    exact br_t g ⟨11, pm_yPN34 b 10 w M 0 (by omega) (by omega) (fun _ => ⟨fun z => absurd rfl z, fun z => absurd z big⟩) h 11 (by omega)⟩
  · have n : v < 0 := Int32.not_le.mp g
    have e : pm_nl v = 45 :: pm_dl v.toInt.natAbs 10 := by unfold pm_nl; rw [if_pos n]; rfl
    rw [e, List.length_cons, show w + ((pm_dl v.toInt.natAbs 10).length + 1) = w + 1 + (pm_dl v.toInt.natAbs 10).length by omega] at h
    unfold wY_putNumber_12
    rw [pm_absM v n, u10]
    refine br_f g ?_
    refine pm_yPut (c := 45) (by omega) ⟨11, ?_⟩
    exact pm_yPN34 b 10 (w + 1) _ 0 (by omega) (by omega) (fun _ => ⟨fun z => absurd rfl z, fun z => absurd z big⟩) h 11 (by omega)
end
