/-- text, count, values, rules, result's length and what it consulted are the same on both sides; the result's characters agree below its length -/
def i_Rel (_ : Nat) (u : SX) (v : SY) : Prop :=
  ∃ (t : Nat → Nat) (n w r : Nat) (lb lv lk lf ct lo : Int32) (T V O H R Q W M : Nat → Int32), u = (nI r, nI n, nI w, lb, lv, lk, T, V, O, H, R) ∧ v = (nI r, nI n, nI w, lb, lf, ct, lo, T, V, Q, W, M) ∧ (∀ j, T j = nI (t j)) ∧ (∀ j, t j < 65536) ∧ n ≤ 96 ∧ w ≤ 120 ∧ r ≤ 2 ∧ ∀ j, j < w → O j = Q j
theorem i_up {k : Nat} {u : SX} {v : SY} (h : i_Rel k u v) : i_Rel (k + 3) u v := h
theorem pm_rel0 {r : Nat} (hr : r ≤ 2) (k : Nat) : i_Rel k (nI r, 0, 0, 0, 0, 0, (fun _ => 0), (fun _ => 0), (fun _ => 0), (fun _ => 0), (fun _ => 0)) (nI r, 0, 0, 0, 0, 0, 0, (fun _ => 0), (fun _ => 0), (fun _ => 0), (fun _ => 0), (fun _ => 0)) :=
  ⟨fun _ => 0, 0, 0, r, 0, 0, 0, 0, 0, 0, _, _, _, _, _, _, _, _, rfl, rfl, fun _ => rfl, fun _ => (by decide : 0 < 65536), by decide, by decide, hr, fun _ _ => rfl⟩
theorem i_vc0 (k0 : Int32) : wpX_init (fun u => wpY_init (fun v => i_Rel 1 u v) k0) k0 := by
  unfold wpX_init
  refine br_c (fun h0 => br_c (fun h2 => ?_) (fun h2 => ?_)) (fun h0 => ?_)
  · obtain ⟨r, hr, rfl⟩ := nI_of2 (x := k0) (M := 2) (n := 2) (by decide) (Int32.not_lt.mpr h0) h2
    unfold wX_init_60 wpY_init
    exact br_t h0 (br_t h2 (pm_rel0 hr 1))
  · unfold wX_init_60 wpY_init
    exact br_t h0 (br_f h2 (pm_rel0 (r := 2) (by decide) 1))
  · unfold wX_init_60 wpY_init
    exact br_f h0 (pm_rel0 (r := 0) (by decide) 1)
theorem i_vc_type {k : Nat} {u : SX} {v : SY} (I : i_Rel k u v) (hk : k + 3 ≤ 1537) (v1 : Int32) : wpX_type (fun r u' => wpY_type (fun r' v' => r' = r ∧ i_Rel (k + 3) u' v') v (lw_u16 v1)) u (lw_u16 v1) := by
  obtain ⟨t, n, w, r, lb, lv, lk, lf, ct, lo, T, V, O, H, R, Q, W, M, rfl, rfl, hT, hc, hn, hw, hr, hO⟩ := I
  obtain ⟨c, hc1, hu⟩ : ∃ c, c < 65536 ∧ lw_u16 v1 = nI c := ⟨_, Nat.mod_lt _ (by decide), pk_char v1⟩
  have hv : vp_nar .char (nI c) = nI c := by rw [← hu]; exact pk_vc v1
  rw [hu]
  refine pm_xTy hn hc1 hv (fun e => ?_) (fun e g => ?_) (fun e g => ?_)
  · refine pm_yTy hn hc1 (fun _ => ?_) (fun z _ => absurd z (by omega)) (fun z _ => absurd z (by omega))
    exact ⟨rfl, t, n, w, r, lb, lv, lk, lf, ct, lo, T, V, O, H, R, Q, W, M, rfl, rfl, hT, hc, hn, hw, hr, hO⟩
  · refine pm_yTy hn hc1 (fun z => absurd z (by omega)) (fun _ _ => ?_) (fun _ z => absurd z g)
    exact ⟨rfl, t, n, w, r, lb, lv, lk, lf, ct, lo, T, V, O, H, R, Q, W, M, rfl, rfl, hT, hc, hn, hw, hr, hO⟩
  · refine pm_yTy hn hc1 (fun z => absurd z (by omega)) (fun _ z => absurd g z) (fun _ _ => ?_)
    refine ⟨rfl, (fun j => if j = n then c else t j), n + 1, w, r, lb, lv, lk, lf, ct, lo, _, V, O, H, R, Q, W, M, rfl, rfl, fun j => ?_, fun j => ?_, by omega, hw, hr, hO⟩
    · by_cases z : j = n
      · subst z; rw [pk_us]; exact congrArg nI (if_pos rfl).symm
      · rw [pk_un z, hT j]; exact congrArg nI (if_neg z).symm
    · show (if j = n then c else t j) < 65536
      split
      · exact hc1
      · exact hc j
theorem i_vc_rub {k : Nat} {u : SX} {v : SY} (I : i_Rel k u v) (hk : k + 3 ≤ 1537) : wpX_rub (fun r u' => wpY_rub (fun r' v' => r' = r ∧ i_Rel (k + 3) u' v') v) u := by
  obtain ⟨t, n, w, r, lb, lv, lk, lf, ct, lo, T, V, O, H, R, Q, W, M, rfl, rfl, hT, hc, hn, hw, hr, hO⟩ := I
  cases n with
  | zero => exact br_t rfl (br_t rfl ⟨rfl, t, 0, w, r, lb, lv, lk, lf, ct, lo, T, V, O, H, R, Q, W, M, rfl, rfl, hT, hc, hn, hw, hr, hO⟩)
  | succ n =>
    have ne : ¬ nI (n + 1) = 0 := nI_ne0 (by omega) (by omega)
    exact br_f ne (nm_r (nI_pred n) (br_f ne (nm_r (nI_pred n) ⟨rfl, t, n, w, r, lb, lv, lk, lf, ct, lo, T, V, O, H, R, Q, W, M, rfl, rfl, hT, hc, by omega, hw, hr, hO⟩)))
theorem i_vc_wipe {k : Nat} {u : SX} {v : SY} (I : i_Rel k u v) (hk : k + 3 ≤ 1537) : wpX_wipe (fun r u' => wpY_wipe (fun r' v' => r' = r ∧ i_Rel (k + 3) u' v') v) u := by
  obtain ⟨t, n, w, r, lb, lv, lk, lf, ct, lo, T, V, O, H, R, Q, W, M, rfl, rfl, hT, hc, hn, hw, hr, hO⟩ := I
  exact ⟨rfl, t, 0, w, r, lb, lv, lk, lf, ct, lo, T, V, O, H, R, Q, W, M, rfl, rfl, hT, hc, by omega, hw, hr, hO⟩
theorem i_vc_sound {k : Nat} {u : SX} {v : SY} (I : i_Rel k u v) (hk : k + 3 ≤ 1537) : wpX_sound (fun r => wpY_sound (fun r' v' => r' = r ∧ i_Rel (k + 3) u v') v) u := by
  obtain ⟨t, n, w, r, lb, lv, lk, lf, ct, lo, T, V, O, H, R, Q, W, M, rfl, rfl, hT, hc, hn, hw, hr, hO⟩ := I
  refine pm_xSound hT hc hn (fun S => ?_) (fun S => ?_)
  · refine pm_ySound hT hc hn (fun _ lf' W' => ?_) (fun z => absurd S z)
    exact ⟨rfl, t, n, w, r, lb, lv, lk, lf', ct, lo, T, V, O, H, R, Q, W', M, rfl, rfl, hT, hc, hn, hw, hr, hO⟩
  · refine pm_ySound hT hc hn (fun z => absurd z S) (fun _ lf' W' => ?_)
    exact ⟨rfl, t, n, w, r, lb, lv, lk, lf', ct, lo, T, V, O, H, R, Q, W', M, rfl, rfl, hT, hc, hn, hw, hr, hO⟩
theorem i_vc_set {k : Nat} {u : SX} {v : SY} (I : i_Rel k u v) (hk : k + 3 ≤ 1537) (v1 : Int32) (v2 : Int32) : wpX_set (fun r u' => wpY_set (fun r' v' => r' = r ∧ i_Rel (k + 3) u' v') v v1 v2) u v1 v2 := by
  obtain ⟨t, n, w, r, lb, lv, lk, lf, ct, lo, T, V, O, H, R, Q, W, M, rfl, rfl, hT, hc, hn, hw, hr, hO⟩ := I
  by_cases h0 : v1 < 0
  · exact br_t h0 (br_t h0 ⟨rfl, t, n, w, r, lb, lv, lk, lf, ct, lo, T, V, O, H, R, Q, W, M, rfl, rfl, hT, hc, hn, hw, hr, hO⟩)
  · obtain ⟨a, ha, rfl⟩ := nI_of h0
    by_cases h4 : a < 4
    · have hin : vp_in (nI a) 4 := vp_in_nI h4 (by decide)
      refine br_f h0 (br_t (nI_lt (b := 4) h4 (by decide)) ⟨hin, nm_e ?_⟩)
      refine br_f h0 (br_t (nI_le (b := 3) (by omega) (by decide)) ⟨hin, nm_e ?_⟩)
      exact ⟨rfl, t, n, w, r, lb, lv, lk, lf, ct, lo, T, _, O, H, R, Q, W, M, rfl, rfl, hT, hc, hn, hw, hr, hO⟩
    · refine br_f h0 (br_f (nI_nlt (b := 4) (by omega) ha) ?_)
      refine br_f h0 (br_f (nI_ge (a := 3) (by omega) ha) ?_)
      exact ⟨rfl, t, n, w, r, lb, lv, lk, lf, ct, lo, T, V, O, H, R, Q, W, M, rfl, rfl, hT, hc, hn, hw, hr, hO⟩
theorem i_vc_format {k : Nat} {u : SX} {v : SY} (I : i_Rel k u v) (hk : k + 3 ≤ 1537) : wpX_format (fun r u' => wpY_format (fun r' v' => r' = r ∧ i_Rel (k + 3) u' v') v) u := by
  obtain ⟨t, n, w, r, lb, lv, lk, lf, ct, lo, T, V, O, H, R, Q, W, M, rfl, rfl, hT, hc, hn, hw, hr, hO⟩ := I
  unfold wpX_format
  refine pm_xSound hT hc hn (fun S => ?_) (fun S => ?_)
  · refine br_f (by decide) ?_
    unfold wpX_writeTemplate
    refine nm_e ⟨97, ?_⟩
    have Iv : pm_Iv t n 0 0 0 0 O M (upd H 0 (-1)) R := ⟨by omega, rfl, ⟨rfl, pk_us⟩, fun j hj => absurd hj (Nat.not_lt_zero j), fun l hl => Or.inl (by rw [show l = 0 by omega]; exact pk_us)⟩
    obtain ⟨w', L', lk', O', M', H', R', b1, b2, hX, hY⟩ := pm_main (lb := lb) (V := V) S hT hc hn hr 96 0 0 0 0 0 O M (upd H 0 (-1)) R (by omega) (by omega) Iv
    refine hX _ ?_ 97 (by omega)
    refine pk_le w' 120 (fun g => ?_) (fun g => ?_)
    · unfold wpY_format
      refine pm_ySound hT hc hn (fun _ lf' W' => br_f (by decide) ⟨97, hY _ _ lf' Q W' _ ?_ 97 (by omega)⟩) (fun z => absurd S z)
      unfold wY_format_50
      refine br_t (nI_le (b := 120) g (by decide)) ⟨w' + 1, pm_yF77 g (fun Q' hQ => ?_) w' 0 Q (by omega) (fun j hj => absurd hj (Nat.not_lt_zero j)) (w' + 1) (by omega)⟩
      exact ⟨rfl, t, n, w', r, lk', nI L', lk', lf', nI w', lk', T, V, O', H', R', Q', W', M', rfl, rfl, hT, hc, hn, g, hr, fun j hj => by rw [hQ j hj]; exact b2 j hj (by omega)⟩
    · unfold wpY_format
      refine pm_ySound hT hc hn (fun _ lf' W' => br_f (by decide) ⟨97, hY _ _ lf' Q W' _ ?_ 97 (by omega)⟩) (fun z => absurd S z)
      unfold wY_format_50
      refine br_f (nI_ge (a := 120) g (by omega)) ?_
      exact ⟨rfl, t, n, 0, r, lb, nI L', lk', lf', nI w', lk', T, V, O', H', R', Q, W', M', rfl, rfl, hT, hc, hn, by omega, hr, fun j hj => absurd hj (Nat.not_lt_zero j)⟩
  · refine br_t rfl ?_
    unfold wpY_format
    refine pm_ySound hT hc hn (fun z => absurd z S) (fun _ lf' W' => br_t rfl ?_)
    exact ⟨rfl, t, n, w, r, lb, lv, lk, lf', ct, lo, T, V, O, H, R, Q, W', M, rfl, rfl, hT, hc, hn, hw, hr, hO⟩
theorem i_vc_length {k : Nat} {u : SX} {v : SY} (I : i_Rel k u v) (hk : k + 3 ≤ 1537) : wpX_length (fun r => wpY_length (fun r' => r' = r ∧ i_Rel (k + 3) u v) v) u := by
  obtain ⟨t, n, w, r, lb, lv, lk, lf, ct, lo, T, V, O, H, R, Q, W, M, rfl, rfl, hT, hc, hn, hw, hr, hO⟩ := I
  exact ⟨rfl, t, n, w, r, lb, lv, lk, lf, ct, lo, T, V, O, H, R, Q, W, M, rfl, rfl, hT, hc, hn, hw, hr, hO⟩
theorem i_vc_charAt {k : Nat} {u : SX} {v : SY} (I : i_Rel k u v) (hk : k + 3 ≤ 1537) (v1 : Int32) : wpX_charAt (fun r => wpY_charAt (fun r' => r' = r ∧ i_Rel (k + 3) u v) v v1) u v1 := by
  obtain ⟨t, n, w, r, lb, lv, lk, lf, ct, lo, T, V, O, H, R, Q, W, M, rfl, rfl, hT, hc, hn, hw, hr, hO⟩ := I
  have J : i_Rel (k + 3) (nI r, nI n, nI w, lb, lv, lk, T, V, O, H, R) (nI r, nI n, nI w, lb, lf, ct, lo, T, V, Q, W, M) := ⟨t, n, w, r, lb, lv, lk, lf, ct, lo, T, V, O, H, R, Q, W, M, rfl, rfl, hT, hc, hn, hw, hr, hO⟩
  by_cases h0 : v1 < 0
  · exact br_t h0 (br_t h0 ⟨rfl, J⟩)
  · obtain ⟨a, ha, rfl⟩ := nI_of h0
    by_cases h4 : a < w
    · have hin : vp_in (nI a) 120 := vp_in_nI (by omega) (by decide)
      refine br_f h0 (br_t (nI_lt h4 (by omega)) ⟨hin, ?_⟩)
      refine br_f h0 (br_f (nI_ge h4 (by omega)) ⟨hin, ?_, J⟩)
      rw [nI_clamp ha]
      exact (hO a h4).symm
    · exact br_f h0 (br_f (nI_nlt (by omega) ha) (br_f h0 (br_t (nI_le (by omega) ha) ⟨rfl, J⟩)))
theorem i_vc_named {k : Nat} {u : SX} {v : SY} (I : i_Rel k u v) (hk : k + 3 ≤ 1537) : wpX_named (fun r => wpY_named (fun r' v' => r' = r ∧ i_Rel (k + 3) u v') v) u := by
  obtain ⟨t, n, w, r, lb, lv, lk, lf, ct, lo, T, V, O, H, R, Q, W, M, rfl, rfl, hT, hc, hn, hw, hr, hO⟩ := I
  unfold wpX_named
  refine pm_xSound hT hc hn (fun S => ?_) (fun S => ?_)
  · refine br_f (by decide) ⟨n + 1, pm_xNa S hT hc hn n 0 0 (by omega) ?_ (n + 1) (by omega)⟩
    unfold wpY_named
    refine pm_ySound hT hc hn (fun _ lf' W' => br_f (by decide) ⟨n + 1, pm_yNa S hT hc hn n 0 0 (by omega) ?_ (n + 1) (by omega)⟩) (fun z => absurd S z)
    exact ⟨rfl, t, n, w, r, lb, lv, lk, lf', ct, lo, T, V, O, H, R, Q, W', M, rfl, rfl, hT, hc, hn, hw, hr, hO⟩
  · refine br_t rfl ?_
    unfold wpY_named
    refine pm_ySound hT hc hn (fun z => absurd z S) (fun _ lf' W' => br_t rfl ?_)
    exact ⟨rfl, t, n, w, r, lb, lv, lk, lf', ct, lo, T, V, O, H, R, Q, W', M, rfl, rfl, hT, hc, hn, hw, hr, hO⟩
theorem i_vc_consulted {k : Nat} {u : SX} {v : SY} (I : i_Rel k u v) (hk : k + 3 ≤ 1537) : wpX_consulted (fun r => wpY_consulted (fun r' => r' = r ∧ i_Rel (k + 3) u v) v) u := by
  obtain ⟨t, n, w, r, lb, lv, lk, lf, ct, lo, T, V, O, H, R, Q, W, M, rfl, rfl, hT, hc, hn, hw, hr, hO⟩ := I
  exact ⟨rfl, t, n, w, r, lb, lv, lk, lf, ct, lo, T, V, O, H, R, Q, W, M, rfl, rfl, hT, hc, hn, hw, hr, hO⟩
