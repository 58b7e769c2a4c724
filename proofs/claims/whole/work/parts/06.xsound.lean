/-! the component's walks: characters, the automaton, sound -/
section
variable {rs ty wr lb lv lk : Int32} {T V O H R : Nat → Int32} {t : Nat → Nat} {n : Nat}
theorem pm_xLe {post : Int32 → Prop} {c : Nat} (hc : c < 65536) (h1 : pm_le c → post 1) (h0 : ¬ pm_le c → post 0) : wpX_isLetter post (nI c) := by
  unfold wpX_isLetter
  exact pk_lt c 97 (fun h => h0 (fun z => absurd z.1 (by omega))) (fun h => pk_lt 122 c (fun g => h0 (fun z => absurd z.2 (by omega))) (fun g => h1 ⟨h, g⟩))
theorem pm_xDg {post : Int32 → Prop} {c : Nat} (hc : c < 65536) (h1 : pm_dg c → post 1) (h0 : ¬ pm_dg c → post 0) : wpX_isDigit post (nI c) := by
  unfold wpX_isDigit
  exact pk_lt c 48 (fun h => h0 (fun z => absurd z.1 (by omega))) (fun h => pk_lt 57 c (fun g => h0 (fun z => absurd z.2 (by omega))) (fun g => h1 ⟨h, g⟩))
theorem pm_xPl {post : Int32 → Prop} {c : Nat} (hc : c < 65536) (h1 : pm_pl c → post 1) (h0 : ¬ pm_pl c → post 0) : wpX_isPlain post (nI c) := by
  unfold wpX_isPlain
  refine pm_xLe hc (fun h => ?_) (fun h => ?_)
  · exact br_f (by decide) (h1 (Or.inl h))
  · refine br_t rfl ?_
    refine pm_xDg hc (fun g => ?_) (fun g => ?_)
    · exact br_f (by decide) (h1 (Or.inr (Or.inl g)))
    · refine br_t rfl ?_
      refine pk_eq c 32 (fun e => h1 (by unfold pm_pl; omega)) (fun e1 => ?_)
      refine pk_eq c 44 (fun e => h1 (by unfold pm_pl; omega)) (fun e2 => ?_)
      refine pk_eq c 46 (fun e => h1 (by unfold pm_pl; omega)) (fun e3 => ?_)
      refine pk_eq c 33 (fun e => h1 (by unfold pm_pl; omega)) (fun e4 => ?_)
      refine pk_eq c 45 (fun e => h1 (by unfold pm_pl; omega)) (fun e5 => ?_)
      exact h0 (by unfold pm_le at h; unfold pm_dg at g; unfold pm_pl; omega)
abbrev pm_mk (c : Nat) : Prop := c = 35 ∨ c = 123 ∨ c = 125 ∨ c = 40 ∨ c = 41 ∨ c = 63 ∨ c = 58 ∨ c = 61
theorem pm_xMk {post : Int32 → Prop} {c : Nat} (hc : c < 65536) (h1 : pm_mk c → post 1) (h0 : ¬ pm_mk c → post 0) : wpX_isMark post (nI c) := by
  unfold wpX_isMark
  refine pk_eq c 35 (fun e => h1 (by unfold pm_mk; omega)) (fun e1 => ?_)
  refine pk_eq c 123 (fun e => h1 (by unfold pm_mk; omega)) (fun e2 => ?_)
  refine pk_eq c 125 (fun e => h1 (by unfold pm_mk; omega)) (fun e3 => ?_)
  refine pk_eq c 40 (fun e => h1 (by unfold pm_mk; omega)) (fun e4 => ?_)
  refine pk_eq c 41 (fun e => h1 (by unfold pm_mk; omega)) (fun e5 => ?_)
  refine pk_eq c 63 (fun e => h1 (by unfold pm_mk; omega)) (fun e6 => ?_)
  refine pk_eq c 58 (fun e => h1 (by unfold pm_mk; omega)) (fun e7 => ?_)
  refine pk_eq c 61 (fun e => h1 (by unfold pm_mk; omega)) (fun e8 => ?_)
  exact h0 (by unfold pm_mk; omega)
theorem pm_xPiece {post : Int32 → Prop} {c o : Nat} (hc : c < 65536) (ho : o < 65536) (h : ∀ r, r = pm_sa 0 c o → post (nI r)) : wpX_stateAfterPiece post (nI c) (nI o) := by
  unfold wpX_stateAfterPiece
  refine pk_eq c 123 (fun e => h 1 (by unfold pm_sa; grind)) (fun e1 => ?_)
  refine pk_eq c 41 (fun e => ?_) (fun e2 => ?_)
  · exact pk_le o 0 (fun g => h 7 (by unfold pm_sa; grind)) (fun g => h 4 (by unfold pm_sa; grind))
  · refine pk_eq c 35 (fun e => h 0 (by unfold pm_sa; grind)) (fun e3 => ?_)
    refine pm_xPl hc (fun g => ?_) (fun g => ?_)
    · exact br_f (by decide) (h 0 (by unfold pm_sa; rw [if_pos rfl, if_neg e1, if_neg e2, if_pos (Or.inr g)]))
    · exact br_t rfl (h 7 (by unfold pm_sa; rw [if_pos rfl, if_neg e1, if_neg e2, if_neg (fun z => z.elim e3 g)]))
theorem pm_xKey {post : Int32 → Prop} {c : Nat} (hc : c < 65536) (h : ∀ r, r = pm_ks c → post (nI r)) : wpX_stateAfterKeyStart post (nI c) := by
  unfold wpX_stateAfterKeyStart
  refine pk_eq c 61 (fun e => h 5 (by unfold pm_ks; rw [if_pos e])) (fun e1 => ?_)
  refine pm_xLe hc (fun g => ?_) (fun g => ?_)
  · exact br_f (by decide) (h 6 (by unfold pm_ks; rw [if_neg e1, if_pos g]))
  · exact br_t rfl (h 7 (by unfold pm_ks; rw [if_neg e1, if_neg g]))
theorem pm_xSA {post : Int32 → Prop} {s c o : Nat} (hs : s ≤ 6) (hc : c < 65536) (ho : o < 65536) (h : ∀ r, r = pm_sa s c o → post (nI r)) : wpX_stateAfter post (nI s) (nI c) (nI o) := by
  unfold wpX_stateAfter
  refine pk_lt s 0 (fun z => absurd z (by omega)) (fun _ => ?_)
  refine pk_lt 6 s (fun z => absurd z (by omega)) (fun _ => ?_)
  refine pk_eq s 0 (fun e => ?_) (fun e0 => ?_)
  · subst e; exact pm_xPiece hc ho h
  refine pk_eq s 1 (fun e => ?_) (fun e1 => ?_)
  · subst e
    exact pk_lt c 48 (fun g => h 7 (by unfold pm_sa; grind)) (fun g => pk_le 52 c (fun g => h 7 (by unfold pm_sa; grind)) (fun g => h 2 (by unfold pm_sa; grind)))
  refine pk_eq s 2 (fun e => ?_) (fun e2 => ?_)
  · subst e
    exact pk_eq c 125 (fun g => h 0 (by unfold pm_sa; grind)) (fun g => pk_eq c 63 (fun g => h 3 (by unfold pm_sa; grind)) (fun g => pk_eq c 58 (fun g => h 3 (by unfold pm_sa; grind)) (fun g => h 7 (by unfold pm_sa; grind))))
  refine pk_eq s 3 (fun e => ?_) (fun e3 => ?_)
  · subst e; exact pm_xKey hc (fun r e => h r e)
  refine pk_eq s 4 (fun e => ?_) (fun e4 => ?_)
  · subst e
    exact pk_eq c 125 (fun g => h 0 (by unfold pm_sa; grind)) (fun g => pm_xKey hc (fun r e => h r (by rw [e]; unfold pm_sa; grind)))
  refine pk_eq s 5 (fun e => ?_) (fun e5 => ?_)
  · subst e
    refine pm_xDg hc (fun g => ?_) (fun g => ?_)
    · exact br_f (by decide) (h 6 (by unfold pm_sa; unfold pm_dg at g; grind))
    · exact br_t rfl (h 7 (by unfold pm_sa; unfold pm_dg at g; grind))
  refine pk_eq s 6 (fun e => ?_) (fun e6 => ?_)
  · subst e
    exact pk_eq c 40 (fun g => h 0 (by unfold pm_sa; grind)) (fun g => h 7 (by unfold pm_sa; grind))
  omega
theorem pm_xSound6 {post : Int32 → Prop} (hT : ∀ j, T j = nI (t j)) (hc : ∀ j, t j < 65536) (hn : n ≤ 96) (h1 : pm_Snd t n → post 1) (h0 : ¬ pm_Snd t n → post 0) : ∀ d p o : Nat, p + d = n → pm_st t p ≠ 7 → pm_op t p = o → (∀ k, k ≤ p → pm_op t k ≤ 4) → ∀ m, d < m → wX_sound_6 post rs (nI n) wr lb lv lk T V O H R m (nI (pm_st t p)) (nI o) (nI p) := by
  intro d
  induction d with
  | zero =>
    intro p o hp hs ho h4 m hm
    obtain ⟨m, rfl⟩ : ∃ k, m = k + 1 := ⟨m - 1, by omega⟩
    obtain rfl : p = n := by omega
    have iv := pm_inv t p hs
    have bd := h4 p (Nat.le_refl p)
    rw [wX_sound_6]
    refine pk_le p p (fun _ => ?_) (fun z => absurd z (by omega))
    refine pk_eq (pm_st t p) 0 (fun e => ?_) (fun e => ?_)
    · exact pk_eq o 0 (fun g => h1 ⟨h4, e, by omega⟩) (fun g => h0 (fun S => g (by have := S.2.2; omega)))
    · exact h0 (fun S => e S.2.1)
  | succ d ih =>
    intro p o hp hs ho h4 m hm
    obtain ⟨m, rfl⟩ : ∃ k, m = k + 1 := ⟨m - 1, by omega⟩
    have iv := pm_inv t p hs
    have bd := h4 p (Nat.le_refl p)
    have key : ∀ x2 : Int32, (pm_st t (p + 1) ≠ 7 → ∃ o' : Nat, x2 = nI o' ∧ pm_op t (p + 1) = o') → wX_sound_53 post (wX_sound_6 post rs (nI n) wr lb lv lk T V O H R m) (nI (pm_st t (p + 1))) x2 (nI p) rs (nI n) wr lb lv lk T V O H R := by
      intro x2 hx
      unfold wX_sound_53
      have sb : pm_st t (p + 1) < 2 ^ 31 := by
        by_cases z : pm_st t (p + 1) = 7
        · omega
        · have := pm_inv t (p + 1) z; omega
      refine pk_eq (pm_st t (p + 1)) 7 (fun e => h0 (fun S => ?_)) (fun e => ?_)
      · exact absurd e (pm_accS S.2 (by omega))
      · obtain ⟨o', rfl, ho'⟩ := hx e
        have b : pm_op t (p + 1) ≤ ((p + 1 : Nat) : Int) := (pm_cnB 123 125 t (by decide) (p + 1)).2
        refine pk_le o' 4 (fun g => nm_r (nI_1 p) ?_) (fun g => h0 (fun S => ?_))
        · exact ih (p + 1) o' (by omega) e ho' (fun k hk => by
            rcases Nat.lt_or_ge k (p + 1) with q | q
            · exact h4 k (by omega)
            · rw [show k = p + 1 by omega]; omega) m (by omega)
        · have := S.1 (p + 1) (by omega)
          omega
    have c3 := pm_cn3 123 125 t p (by decide)
    have hin : vp_in (nI p) 96 := vp_in_nI (by omega) (by decide)
    have hcl : (nI p).toNatClampNeg = p := nI_clamp (by omega)
    rw [wX_sound_6]
    refine pk_le n p (fun z => absurd z (by omega)) (fun _ => ⟨hin, ?_⟩)
    refine nm_r (e' := nI (t p)) (by rw [hcl]; exact hT p) ?_
    refine pm_xSA iv.1 (hc p) (by omega) (fun r hr => ?_)
    have er : r = pm_st t (p + 1) := by rw [hr, pm_st_s]; show _ = pm_sa _ _ (pm_op t p); rw [ho]
    subst er
    have hcp := hc p
    refine pk_eq (t p) 123 (fun e => ?_) (fun e1 => pk_eq (t p) 125 (fun e => ?_) (fun e2 => ?_))
    · refine nm_r (nI_1 o) (key _ (fun _ => ⟨o + 1, rfl, ?_⟩))
      have := c3.1 e
      unfold pm_op at *
      omega
    · refine nm_e (key _ (fun s7 => ?_))
      have := c3.2.1 e
      have iv' := pm_inv t (p + 1) s7
      refine ⟨o - 1, ?_, by unfold pm_op at *; omega⟩
      obtain ⟨o', rfl⟩ : ∃ k, o = k + 1 := ⟨o - 1, by unfold pm_op at *; omega⟩
      exact pk_m1 o'
    · refine key _ (fun _ => ⟨o, rfl, ?_⟩)
      have := c3.2.2 e1 e2
      unfold pm_op at *
      omega
theorem pm_xSound {post : Int32 → Prop} (hT : ∀ j, T j = nI (t j)) (hc : ∀ j, t j < 65536) (hn : n ≤ 96) (h1 : pm_Snd t n → post 1) (h0 : ¬ pm_Snd t n → post 0) : wpX_sound post (rs, nI n, wr, lb, lv, lk, T, V, O, H, R) :=
  ⟨n + 1, pm_xSound6 hT hc hn h1 h0 n 0 0 (by omega) (show (0 : Nat) ≠ 7 by decide) rfl (fun k hk => by rw [show k = 0 by omega]; exact (by decide : (0 : Int) ≤ 4)) (n + 1) (by omega)⟩
end
