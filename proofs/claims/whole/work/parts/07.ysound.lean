/-! the reference's walks: characters, pieces, replacement, sound -/
section
variable {ru nn ln cs lf ct lo : Int32} {T V Q W M : Nat → Int32} {t w : Nat → Nat} {n m : Nat}
theorem pm_yLe {post : Int32 → Prop} {c : Nat} (hc : c < 65536) (h1 : pm_le c → post 1) (h0 : ¬ pm_le c → post 0) : wpY_isLetter post (ru, nn, ln, cs, lf, ct, lo, T, V, Q, W, M) (nI c) := by
  unfold wpY_isLetter
  exact pk_lt c 97 (fun h => h0 (fun z => absurd z.1 (by omega))) (fun h => pk_lt 122 c (fun g => h0 (fun z => absurd z.2 (by omega))) (fun g => h1 ⟨h, g⟩))
theorem pm_yDg {post : Int32 → Prop} {c : Nat} (hc : c < 65536) (h1 : pm_dg c → post 1) (h0 : ¬ pm_dg c → post 0) : wpY_isDigit post (ru, nn, ln, cs, lf, ct, lo, T, V, Q, W, M) (nI c) := by
  unfold wpY_isDigit
  exact pk_lt c 48 (fun h => h0 (fun z => absurd z.1 (by omega))) (fun h => pk_lt 57 c (fun g => h0 (fun z => absurd z.2 (by omega))) (fun g => h1 ⟨h, g⟩))
theorem pm_yPl {post : Int32 → Prop} {c : Nat} (hc : c < 65536) (h1 : pm_pl c → post 1) (h0 : ¬ pm_pl c → post 0) : wpY_isPlain post (ru, nn, ln, cs, lf, ct, lo, T, V, Q, W, M) (nI c) := by
  unfold wpY_isPlain
  refine pm_yLe hc (fun h => ?_) (fun h => ?_)
  · exact br_f (by decide) (h1 (Or.inl h))
  · refine br_t rfl ?_
    refine pm_yDg hc (fun g => ?_) (fun g => ?_)
    · exact br_f (by decide) (h1 (Or.inr (Or.inl g)))
    · refine br_t rfl ?_
      refine pk_eq c 32 (fun e => h1 (by unfold pm_pl; omega)) (fun e1 => ?_)
      refine pk_eq c 44 (fun e => h1 (by unfold pm_pl; omega)) (fun e2 => ?_)
      refine pk_eq c 46 (fun e => h1 (by unfold pm_pl; omega)) (fun e3 => ?_)
      refine pk_eq c 33 (fun e => h1 (by unfold pm_pl; omega)) (fun e4 => ?_)
      refine pk_eq c 45 (fun e => h1 (by unfold pm_pl; omega)) (fun e5 => ?_)
      exact h0 (by unfold pm_le at h; unfold pm_dg at g; unfold pm_pl; omega)
def pm_wa (w : Nat → Nat) (m i : Nat) : Nat := if i < m then w i else 0
theorem pm_wa_lt (hw : ∀ j, w j < 65536) (i : Nat) : pm_wa w m i < 65536 := by
  unfold pm_wa
  split
  · exact hw i
  · omega
theorem pm_wa_in {i : Nat} (h : pm_wa w m i ≠ 0) : i < m ∧ pm_wa w m i = w i := by
  unfold pm_wa at *
  by_cases z : i < m
  · exact ⟨z, if_pos z⟩
  · rw [if_neg z] at h; exact absurd rfl h
theorem pm_yWA {post : Int32 → Prop} {i : Nat} (hW : ∀ j, j < m → W j = nI (w j)) (hm : m ≤ 96) (hi : i < 1000) (h : post (nI (pm_wa w m i))) : wpY_workAt post (ru, nn, ln, cs, nI m, ct, lo, T, V, Q, W, M) (nI i) := by
  unfold wpY_workAt
  refine pk_lt i 0 (fun z => absurd z (by omega)) (fun _ => pk_le m i (fun g => ?_) (fun g => ⟨vp_in_nI (by omega) (by decide), ?_⟩))
  · rw [pm_wa, if_neg (by omega)] at h; exact h
  · rw [nI_clamp (by omega), hW i g]
    rw [pm_wa, if_pos g] at h; exact h
theorem pm_yBE75 {post : Int32 → Prop} {o : Nat} (hW : ∀ j, j < m → W j = nI (w j)) (hw : ∀ j, w j < 65536) (hm : m ≤ 96) (hY : ∀ e, o < e → e < m → w e = 41 → (∀ k, o < k → k < e → (w k = 35 ∨ pm_pl (w k))) → post (nI e)) (hN : ¬ (pm_Acc w m ∧ pm_st w (o + 1) = 0 ∧ 1 ≤ pm_op w (o + 1) ∧ (∀ k, o < k → k < m → w k ≠ 123)) → post (-1)) : ∀ d k, k + d = m → o + 1 ≤ k → (∀ j, o < j → j < k → (w j = 35 ∨ pm_pl (w j))) → ∀ f, d < f → wY_branchEnd_75 post ru nn ln cs (nI m) ct lo T V Q W M f (nI k) := by
  intro d
  induction d with
  | zero =>
    intro k hk ho hp f hf
    obtain ⟨f, rfl⟩ : ∃ x, f = x + 1 := ⟨f - 1, by omega⟩
    rw [wY_branchEnd_75]
    refine pk_le m k (fun _ => hN (fun ⟨A, s, o1, _⟩ => ?_)) (fun z => absurd z (by omega))
    have := (pm_BGrun A s o1 ho (by omega) hp).1
    omega
  | succ d ih =>
    intro k hk ho hp f hf
    obtain ⟨f, rfl⟩ : ∃ x, f = x + 1 := ⟨f - 1, by omega⟩
    have hin : vp_in (nI k) 96 := vp_in_nI (by omega) (by decide)
    have hcl : W (nI k).toNatClampNeg = nI (w k) := by rw [nI_clamp (by omega)]; exact hW k (by omega)
    have hck := hw k
    have nx : (w k = 35 ∨ pm_pl (w k)) → wY_branchEnd_75 post ru nn ln cs (nI m) ct lo T V Q W M f (nI (k + 1)) := fun c =>
      ih (k + 1) (by omega) (by omega) (fun j j1 j2 => by
        rcases Nat.lt_or_ge j k with q | q
        · exact hp j j1 q
        · rw [show j = k by omega]; exact c) f (by omega)
    rw [wY_branchEnd_75]
    dsimp only
    rw [hcl]
    refine pk_le m k (fun z => absurd z (by omega)) (fun _ => ⟨hin, ?_⟩)
    refine pk_eq (w k) 41 (fun e => hY k (by omega) (by omega) e hp) (fun e1 => ⟨hin, ?_⟩)
    refine pm_yPl hck (fun g => ?_) (fun g => ?_)
    · exact br_f (by decide) (nm_r (nI_1 k) (nx (Or.inr g)))
    · refine br_t rfl ⟨hin, ?_⟩
      refine pk_eq (w k) 35 (fun e => nm_r (nI_1 k) (nx (Or.inl e))) (fun e2 => hN (fun ⟨A, s, o1, n1⟩ => ?_))
      have h1 := (pm_BGrun A s o1 ho (by omega) hp).2
      have h2 := n1 k (by omega) (by omega)
      exact h1.elim h2 (fun z => z.elim e1 (fun z => z.elim e2 g))
theorem pm_yBE49 {post : Int32 → Prop} {a o : Nat} (hW : ∀ j, j < m → W j = nI (w j)) (hw : ∀ j, w j < 65536) (hm : m ≤ 96) (ha : a < m) (K : (pm_le (w a) ∧ o = a + 1) ∨ (w a = 61 ∧ pm_dg (w (a + 1)) ∧ o = a + 2)) (hY : ∀ e, pm_BrE w m a e → post (nI e)) (hN : ¬ pm_BG w m a → post (-1)) : wY_branchEnd_49 post (nI o) ru nn ln cs (nI m) ct lo T V Q W M := by
  have oo : o = a + 1 ∨ o = a + 2 := by omega
  have gk : pm_BG w m a → o < m ∧ w o = 40 ∧ pm_st w (o + 1) = 0 ∧ 1 ≤ pm_op w (o + 1) := by
    intro G
    obtain ⟨o', k1, k2, k3, k4, k5⟩ := pm_BGkey G
    have : o' = o := by unfold pm_le pm_dg at *; omega
    subst this
    exact ⟨k2, k3, k4, k5⟩
  unfold wY_branchEnd_49
  refine pk_lt o 0 (fun z => absurd z (by omega)) (fun _ => ?_)
  refine pm_yWA hW hm (by omega) ?_
  have wl := pm_wa_lt (m := m) hw o
  refine pk_eq (pm_wa w m o) 40 (fun e => nm_r (nI_1 o) ?_) (fun e => hN (fun G => ?_))
  · obtain ⟨om, ow⟩ := pm_wa_in (w := w) (m := m) (i := o) (by omega)
    have w40 : w o = 40 := by omega
    refine ⟨m + 1, pm_yBE75 hW hw hm (fun e h1 h2 h3 h4 => hY e ⟨o, K, w40, h1, h2, h3, h4⟩) (fun nG => hN (fun G => nG ?_)) (m - (o + 1)) (o + 1) (by omega) (Nat.le_refl _) (fun j j1 j2 => absurd j1 (by omega)) (m + 1) (by omega)⟩
    obtain ⟨g1, g2, g3, g4⟩ := gk G
    exact ⟨G.1, g3, g4, fun k k1 k2 => G.2.2.2 k (by omega) k2⟩
  · obtain ⟨g1, g2, g3, g4⟩ := gk G
    exact e (by unfold pm_wa; rw [if_pos g1]; exact g2)
theorem pm_yBE {post : Int32 → Prop} {a : Nat} (hW : ∀ j, j < m → W j = nI (w j)) (hw : ∀ j, w j < 65536) (hm : m ≤ 96) (ha : a ≤ m) (hY : ∀ e, pm_BrE w m a e → post (nI e)) (hN : ¬ pm_BG w m a → post (-1)) : wpY_branchEnd post (ru, nn, ln, cs, nI m, ct, lo, T, V, Q, W, M) (nI a) := by
  have l0 := pm_wa_lt (m := m) hw a
  have l1 := pm_wa_lt (m := m) hw (a + 1)
  have bad : (¬ pm_le (pm_wa w m a)) → ¬ (pm_wa w m a = 61 ∧ pm_dg (pm_wa w m (a + 1))) → ¬ pm_BG w m a := by
    intro h1 h2 G
    obtain ⟨o', k1, k2, k3, k4, k5⟩ := pm_BGkey G
    have e1 : pm_wa w m a = w a := by unfold pm_wa; rw [if_pos G.2.1]
    rcases k1 with k1 | k1
    · exact h1 (by rw [e1]; exact k1.1)
    · have e2 : pm_wa w m (a + 1) = w (a + 1) := by unfold pm_wa; rw [if_pos k1.2.2.1]
      exact h2 ⟨by rw [e1]; exact k1.1, by rw [e2]; exact k1.2.1⟩
  have neg : ¬ pm_BG w m a → wY_branchEnd_48 post ru nn ln cs (nI m) ct lo T V Q W M := by
    intro h
    unfold wY_branchEnd_48 wY_branchEnd_49
    exact br_t (by decide) (hN h)
  unfold wpY_branchEnd
  refine pm_yWA hW hm (by omega) ?_
  rw [nI_1 a]
  refine pm_yWA hW hm (by omega) ?_
  refine pm_yLe l0 (fun g => ?_) (fun g => ?_)
  · obtain ⟨am, aw⟩ := pm_wa_in (w := w) (m := m) (i := a) (by unfold pm_le at g; omega)
    exact br_f (by decide) (pm_yBE49 hW hw hm am (Or.inl ⟨by rw [← aw]; exact g, rfl⟩) hY hN)
  · refine br_t rfl ?_
    refine pk_eq (pm_wa w m a) 61 (fun e => ?_) (fun e => neg (bad g (fun z => e z.1)))
    obtain ⟨am, aw⟩ := pm_wa_in (w := w) (m := m) (i := a) (by omega)
    refine pm_yDg l1 (fun d => ?_) (fun d => ?_)
    · obtain ⟨am1, aw1⟩ := pm_wa_in (w := w) (m := m) (i := a + 1) (by unfold pm_dg at d; omega)
      rw [show nI a + 2 = nI (a + 2) from nI_add a 2]
      exact br_f (by decide) (pm_yBE49 hW hw hm am (Or.inr ⟨by omega, by rw [← aw1]; exact d, rfl⟩) hY hN)
    · exact br_t rfl (neg (bad g (fun z => d z.2)))
theorem pm_yPE84 {post : Int32 → Prop} {i : Nat} (hW : ∀ j, j < m → W j = nI (w j)) (hw : ∀ j, w j < 65536) (hm : m ≤ 96) (h123 : w i = 123) (hY : ∀ e, pm_PE w m i e → post (nI e)) (hN : ¬ pm_GD w m i → post (-1)) : ∀ d k a, k + d = 96 → i + 3 + k ≤ a → a ≤ m → pm_PI w i a → (pm_GD w m i → pm_BG w m a) → ∀ f, d < f → wY_pieceEnd_84 post ru nn ln cs (nI m) ct lo T V Q W M f (nI a) (nI k) := by
  intro d
  induction d with
  | zero =>
    intro k a hk ha ham hp hg f hf
    obtain ⟨f, rfl⟩ : ∃ x, f = x + 1 := ⟨f - 1, by omega⟩
    rw [wY_pieceEnd_84]
    exact pk_le 96 k (fun _ => hN (fun G => by have := (hg G).2.1; omega)) (fun z => absurd z (by omega))
  | succ d ih =>
    intro k a hk ha ham hp hg f hf
    obtain ⟨f, rfl⟩ : ∃ x, f = x + 1 := ⟨f - 1, by omega⟩
    rw [wY_pieceEnd_84]
    refine pk_le 96 k (fun z => absurd z (by omega)) (fun _ => ?_)
    refine pm_yBE hW hw hm ham (fun e B => ?_) (fun nb => ?_)
    · have bs := pm_brS hp B
      refine br_t (nI_pos' (by omega)) ?_
      rw [nI_1 e]
      refine pm_yWA hW hm (by omega) ?_
      have wl := pm_wa_lt (m := m) hw (e + 1)
      refine pk_eq (pm_wa w m (e + 1)) 125 (fun c => ?_) (fun c => ?_)
      · obtain ⟨em, ew⟩ := pm_wa_in (w := w) (m := m) (i := e + 1) (by omega)
        exact hY (e + 1) (pm_pieceB h123 (by omega) hp B em (by omega))
      · refine nm_e (nm_r (nI_1 k) ?_)
        refine ih (k + 1) (e + 1) (by omega) (by omega) (by omega) ⟨bs.1, fun z y => Or.inr (bs.2.1 z y)⟩ (fun G => ?_) f (by omega)
        have gs := pm_GDs (hg G) B
        exact gs.2.2 (fun z => c (by unfold pm_wa; rw [if_pos gs.2.1]; exact z))
    · exact br_f (by decide) (hN (fun G => nb (hg G)))
theorem pm_yPE {post : Int32 → Prop} {i : Nat} (hW : ∀ j, j < m → W j = nI (w j)) (hw : ∀ j, w j < 65536) (hm : m ≤ 96) (hi : i < m) (hY : ∀ e, pm_PE w m i e → post (nI e)) (hN : ¬ pm_GD w m i → post (-1)) : wpY_pieceEnd post (ru, nn, ln, cs, nI m, ct, lo, T, V, Q, W, M) (nI i) := by
  have l0 := pm_wa_lt (m := m) hw i
  have l1 := pm_wa_lt (m := m) hw (i + 1)
  have l2 := pm_wa_lt (m := m) hw (i + 2)
  have gd : pm_GD w m i → pm_wa w m i = 123 ∧ 48 ≤ pm_wa w m (i + 1) ∧ pm_wa w m (i + 1) ≤ 51 ∧ (pm_wa w m (i + 2) = 125 ∨ (pm_wa w m (i + 2) = 63 ∨ pm_wa w m (i + 2) = 58)) ∧ (w (i + 2) = 125 ∨ pm_BG w m (i + 3)) := by
    intro G
    obtain ⟨g1, g2, g3, g4⟩ := pm_GD0 G
    unfold pm_wa
    rw [if_pos (by omega), if_pos (by omega), if_pos (by omega)]
    exact ⟨G.2.2.1, g2, g3, g4.elim Or.inl (fun z => Or.inr z.1), g4.elim Or.inl (fun z => Or.inr z.2)⟩
  have a1 : nI i + 1 = nI (i + 1) := nI_1 i
  have a2 : nI i + 2 = nI (i + 2) := nI_add i 2
  have a3 : nI i + 3 = nI (i + 3) := nI_add i 3
  have loop : w i = 123 → (48 ≤ w (i + 1) ∧ w (i + 1) ≤ 51) → i + 2 < m → (w (i + 2) = 63 ∨ w (i + 2) = 58) → ∃ n84 : Nat, wY_pieceEnd_84 post ru nn ln cs (nI m) ct lo T V Q W M n84 (nI (i + 3)) 0 := fun h0 h1 h3 h2 =>
    ⟨97, pm_yPE84 hW hw hm h0 hY hN 96 0 (i + 3) (by omega) (by omega) (by omega) (pm_PI0 h0 h1 h2) (fun G => (gd G).2.2.2.2.elim (fun z => absurd z (by omega)) (fun z => z)) 97 (by omega)⟩
  unfold wpY_pieceEnd
  rw [a1, a2, a3]
  refine pm_yWA hW hm (by omega) ?_
  refine pk_eq (pm_wa w m i) 123 (fun e0 => ?_) (fun e => hN (fun G => e (gd G).1))
  refine pm_yWA hW hm (by omega) ?_
  refine pk_lt (pm_wa w m (i + 1)) 48 (fun e => hN (fun G => absurd (gd G).2.1 (by omega))) (fun e1 => ?_)
  refine pm_yWA hW hm (by omega) ?_
  refine pk_le (pm_wa w m (i + 1)) 51 (fun e2 => ?_) (fun e => hN (fun G => absurd (gd G).2.2.1 (by omega)))
  obtain ⟨m0, w0⟩ := pm_wa_in (w := w) (m := m) (i := i) (by omega)
  obtain ⟨m1, w1⟩ := pm_wa_in (w := w) (m := m) (i := i + 1) (by omega)
  refine pm_yWA hW hm (by omega) ?_
  refine pk_eq (pm_wa w m (i + 2)) 125 (fun e => ?_) (fun e3 => ?_)
  · obtain ⟨m2, w2⟩ := pm_wa_in (w := w) (m := m) (i := i + 2) (by omega)
    exact hY (i + 2) (pm_pieceV (by omega) (by omega) m2 (by omega))
  refine pm_yWA hW hm (by omega) ?_
  refine pk_eq (pm_wa w m (i + 2)) 63 (fun e => ?_) (fun e4 => ?_)
  · obtain ⟨m2, w2⟩ := pm_wa_in (w := w) (m := m) (i := i + 2) (by omega)
    exact nm_e (loop (by omega) (by omega) m2 (by omega))
  refine pm_yWA hW hm (by omega) ?_
  refine pk_eq (pm_wa w m (i + 2)) 58 (fun e => ?_) (fun e5 => hN (fun G => ?_))
  · obtain ⟨m2, w2⟩ := pm_wa_in (w := w) (m := m) (i := i + 2) (by omega)
    exact nm_e (loop (by omega) (by omega) m2 (by omega))
  · exact (gd G).2.2.2.1.elim e3 (fun z => z.elim e4 e5)
/-! replacement -/
def pm_rp (w : Nat → Nat) (i e j : Nat) : Nat := if j < i then w j else if j = i then 33 else w (j + (e - i))
theorem pm_yRO32 {post : Int32 → SY → Prop} {i e : Nat} (hw : ∀ j, j < m → w j < 65536) (hm : m ≤ 96) (hie : i < e) (he : e < m) (h1 : ∀ W' : Nat → Int32, (∀ j, j < m - (e - i) → W' j = nI (pm_rp w i e j)) → post 1 (ru, nn, ln, cs, nI (m - (e - i)), ct, lo, T, V, Q, W', M)) : ∀ d k, k + d = m → e + 1 ≤ k → ∀ W' : Nat → Int32, (∀ j, j < k - (e - i) → W' j = nI (pm_rp w i e j)) → (∀ j, k ≤ j → j < m → W' j = nI (w j)) → ∀ f, d < f → wY_replaceOne_32 post (nI i) (nI e) ru nn ln cs (nI m) ct lo f (nI k) T V Q W' M := by
  intro d
  induction d with
  | zero =>
    intro k hk hek W' hA hB f hf
    obtain ⟨f, rfl⟩ : ∃ x, f = x + 1 := ⟨f - 1, by omega⟩
    rw [wY_replaceOne_32]
    refine pk_le m k (fun _ => ?_) (fun z => absurd z (by omega))
    refine nm_r (e' := nI (m - (e - i))) ?_ (h1 W' (fun j hj => hA j (by omega)))
    rw [pk_sub (by omega), nI_add]
    exact congrArg nI (by omega)
  | succ d ih =>
    intro k hk hek W' hA hB f hf
    obtain ⟨f, rfl⟩ : ∃ x, f = x + 1 := ⟨f - 1, by omega⟩
    have ix : nI k - nI e + nI i = nI (k - (e - i)) := by
      rw [pk_sub (by omega), nI_add]
      exact congrArg nI (by omega)
    have hcl : W' (nI k).toNatClampNeg = nI (w k) := by rw [nI_clamp (by omega)]; exact hB k (Nat.le_refl k) (by omega)
    rw [wY_replaceOne_32]
    dsimp only
    rw [ix, hcl, nI_clamp (n := k - (e - i)) (by omega)]
    refine pk_le m k (fun z => absurd z (by omega)) (fun _ => ⟨vp_in_nI (by omega) (by decide), vp_in_nI (by omega) (by decide), ?_⟩)
    refine nm_e (nm_r (nI_1 k) ?_)
    refine ih (k + 1) (by omega) (by omega) _ (fun j hj => ?_) (fun j j1 j2 => ?_) f (by omega)
    · by_cases z : j = k - (e - i)
      · subst z
        rw [pk_us]
        unfold pm_rp
        rw [if_neg (by omega), if_neg (by omega), show k - (e - i) + (e - i) = k by omega]
      · rw [pk_un z]; exact hA j (by omega)
    · rw [pk_un (by omega)]; exact hB j (by omega) j2
theorem pm_yRO2 {post : Int32 → SY → Prop} (hW : ∀ j, j < m → W j = nI (w j)) (hw : ∀ j, w j < 65536) (hm : m ≤ 96) (h1 : ∀ (i e : Nat) (W' : Nat → Int32), pm_PE w m i e → (∀ j, j < m - (e - i) → W' j = nI (pm_rp w i e j)) → post 1 (ru, nn, ln, cs, nI (m - (e - i)), ct, lo, T, V, Q, W', M)) (h0 : (∀ i, i < m → ¬ pm_GD w m i) → post 0 (ru, nn, ln, cs, nI m, ct, lo, T, V, Q, W, M)) : ∀ d i, i + d = m → (∀ j, j < i → ¬ pm_GD w m j) → ∀ f, d < f → wY_replaceOne_2 post ru nn ln cs (nI m) ct lo T V Q W M f (nI i) := by
  intro d
  induction d with
  | zero =>
    intro i hi hg f hf
    obtain ⟨f, rfl⟩ : ∃ x, f = x + 1 := ⟨f - 1, by omega⟩
    rw [wY_replaceOne_2]
    exact pk_le m i (fun _ => h0 (fun j hj => hg j (by omega))) (fun z => absurd z (by omega))
  | succ d ih =>
    intro i hi hg f hf
    obtain ⟨f, rfl⟩ : ∃ x, f = x + 1 := ⟨f - 1, by omega⟩
    rw [wY_replaceOne_2]
    refine pk_le m i (fun z => absurd z (by omega)) (fun _ => ?_)
    refine pm_yPE hW hw hm (by omega) (fun e P => ?_) (fun ng => ?_)
    · have p1 := P.1
      have p2 := P.2.1
      refine br_f (nI_pos (by omega)) ⟨vp_in_nI (by omega) (by decide), ?_⟩
      refine nm_e (nm_r (nI_1 e) ⟨m + 1, ?_⟩)
      rw [nI_clamp (n := i) (by omega)]
      refine pm_yRO32 (fun j _ => hw j) hm (by omega) p2 (fun W' hW' => h1 i e W' P hW') (m - (e + 1)) (e + 1) (by omega) (Nat.le_refl _) _ (fun j hj => ?_) (fun j j1 j2 => ?_) (m + 1) (by omega)
      · by_cases z : j = i
        · subst z
          rw [pk_us]
          unfold pm_rp
          rw [if_neg (by omega), if_pos rfl]
          rfl
        · rw [pk_un z, hW j (by omega)]
          unfold pm_rp
          rw [if_pos (by omega)]
      · rw [pk_un (by omega)]; exact hW j j2
    · refine br_t (by decide) (nm_r (nI_1 i) ?_)
      refine ih (i + 1) (by omega) (fun j hj => ?_) f (by omega)
      rcases Nat.lt_or_ge j i with q | q
      · exact hg j q
      · rw [show j = i by omega]; exact ng
theorem pm_yRO {post : Int32 → SY → Prop} (hW : ∀ j, j < m → W j = nI (w j)) (hw : ∀ j, w j < 65536) (hm : m ≤ 96) (h1 : ∀ (i e : Nat) (W' : Nat → Int32), pm_PE w m i e → (∀ j, j < m - (e - i) → W' j = nI (pm_rp w i e j)) → post 1 (ru, nn, ln, cs, nI (m - (e - i)), ct, lo, T, V, Q, W', M)) (h0 : (∀ i, i < m → ¬ pm_GD w m i) → post 0 (ru, nn, ln, cs, nI m, ct, lo, T, V, Q, W, M)) : wpY_replaceOne post (ru, nn, ln, cs, nI m, ct, lo, T, V, Q, W, M) :=
  ⟨m + 1, pm_yRO2 hW hw hm h1 h0 m 0 (by omega) (fun j hj => absurd hj (Nat.not_lt_zero j)) (m + 1) (by omega)⟩
theorem pm_yS100 {post : Int32 → SY → Prop} (hW : ∀ j, j < m → W j = nI (w j)) (hw : ∀ j, w j < 65536) (hm : m ≤ 96) (h1 : (∀ k, k < m → (w k = 35 ∨ pm_pl (w k))) → post 1 (ru, nn, ln, cs, nI m, ct, lo, T, V, Q, W, M)) (h0 : ¬ (∀ k, k < m → (w k = 35 ∨ pm_pl (w k))) → post 0 (ru, nn, ln, cs, nI m, ct, lo, T, V, Q, W, M)) : ∀ d k, k + d = m → (∀ j, j < k → (w j = 35 ∨ pm_pl (w j))) → ∀ f, d < f → wY_sound_100 post ru nn ln cs (nI m) ct lo T V Q W M f (nI k) := by
  intro d
  induction d with
  | zero =>
    intro k hk hp f hf
    obtain ⟨f, rfl⟩ : ∃ x, f = x + 1 := ⟨f - 1, by omega⟩
    rw [wY_sound_100]
    exact pk_le m k (fun _ => h1 (fun j hj => hp j (by omega))) (fun z => absurd z (by omega))
  | succ d ih =>
    intro k hk hp f hf
    obtain ⟨f, rfl⟩ : ∃ x, f = x + 1 := ⟨f - 1, by omega⟩
    have hin : vp_in (nI k) 96 := vp_in_nI (by omega) (by decide)
    have hcl : W (nI k).toNatClampNeg = nI (w k) := by rw [nI_clamp (by omega)]; exact hW k (by omega)
    have hck := hw k
    have nx : (w k = 35 ∨ pm_pl (w k)) → wY_sound_100 post ru nn ln cs (nI m) ct lo T V Q W M f (nI (k + 1)) := fun c =>
      ih (k + 1) (by omega) (fun j j2 => by
        rcases Nat.lt_or_ge j k with q | q
        · exact hp j q
        · rw [show j = k by omega]; exact c) f (by omega)
    rw [wY_sound_100]
    dsimp only
    rw [hcl]
    refine pk_le m k (fun z => absurd z (by omega)) (fun _ => ⟨hin, ?_⟩)
    refine pm_yPl hck (fun g => ?_) (fun g => ?_)
    · exact br_f (by decide) (nm_r (nI_1 k) (nx (Or.inr g)))
    · refine br_t rfl ⟨hin, ?_⟩
      exact pk_eq (w k) 35 (fun e => nm_r (nI_1 k) (nx (Or.inl e))) (fun e2 => h0 (fun z => (z k (by omega)).elim e2 g))
theorem pm_rp_lt (hw : ∀ j, w j < 65536) (i e j : Nat) : pm_rp w i e j < 65536 := by
  unfold pm_rp
  split
  · exact hw j
  · split
    · omega
    · exact hw _
theorem pm_yS77 {post : Int32 → SY → Prop} (h1 : pm_Acc t n → ∀ (lf : Int32) (W : Nat → Int32), post 1 (ru, nn, ln, cs, lf, ct, lo, T, V, Q, W, M)) (h0 : ¬ pm_Acc t n → ∀ (lf : Int32) (W : Nat → Int32), post 0 (ru, nn, ln, cs, lf, ct, lo, T, V, Q, W, M)) : ∀ d r m : Nat, r + d = 96 → m + 2 * r ≤ 96 → ∀ (w : Nat → Nat) (W : Nat → Int32), (∀ j, j < m → W j = nI (w j)) → (∀ j, w j < 65536) → (pm_Acc w m ↔ pm_Acc t n) → ∀ f, d + 1 < f → wY_sound_77 post f 1 (nI r) ru nn ln cs (nI m) ct lo T V Q W M := by
  have fin : ∀ (m : Nat) (w : Nat → Nat) (W : Nat → Int32), m ≤ 96 → (∀ j, j < m → W j = nI (w j)) → (∀ j, w j < 65536) → (pm_Acc w m ↔ pm_Acc t n) → (∀ i, i < m → ¬ pm_GD w m i) → ∃ n100 : Nat, wY_sound_100 post ru nn ln cs (nI m) ct lo T V Q W M n100 0 := by
    intro m w W hm hW hw hA hG
    refine ⟨m + 1, pm_yS100 hW hw hm (fun hp => h1 (hA.mp (pm_plainA hp)) _ _) (fun hp => h0 (fun A => hp (pm_plain (hA.mpr A) hG)) _ _) m 0 (by omega) (fun j hj => absurd hj (Nat.not_lt_zero j)) (m + 1) (by omega)⟩
  intro d
  induction d with
  | zero => intro r m hr hm; omega
  | succ d ih =>
    intro r m hr hm w W hW hw hA f hf
    obtain ⟨f, rfl⟩ : ∃ x, f = x + 1 := ⟨f - 1, by omega⟩
    rw [wY_sound_77]
    refine pk_le 96 r (fun z => absurd z (by omega)) (fun _ => br_f (by decide) ?_)
    refine pm_yRO hW hw (by omega) (fun i e W' P hW' => ?_) (fun hG => ?_)
    · have p1 := P.1
      have p2 := P.2.1
      refine nm_r (nI_1 r) ?_
      refine ih (r + 1) (m - (e - i)) (by omega) (by omega) (pm_rp w i e) W' hW' (pm_rp_lt hw i e) ?_ f (by omega)
      rw [← hA]
      exact pm_repl P (fun j hj => by unfold pm_rp; rw [if_pos hj]) (by unfold pm_rp; rw [if_neg (by omega), if_pos rfl]) (fun j j1 j2 => by unfold pm_rp; rw [if_neg (by omega), if_neg (by omega)])
    · refine nm_r (nI_1 r) ?_
      obtain ⟨f, rfl⟩ : ∃ x, f = x + 1 := ⟨f - 1, by omega⟩
      rw [wY_sound_77]
      exact br_c (fun _ => fin m w W (by omega) hW hw hA hG) (fun _ => br_t rfl (fin m w W (by omega) hW hw hA hG))
theorem pm_i1 {x : Int32} {z : Int} (h : x.toInt = z) (h1 : -1000 ≤ z) (h2 : z ≤ 1000) : (x + 1).toInt = z + 1 ∧ (x + (-1)).toInt = z - 1 := by
  constructor
  · rw [Int32.toInt_add, h, show (1 : Int32).toInt = 1 from rfl]
    exact Int.bmod_eq_of_le (by omega) (by omega)
  · rw [Int32.toInt_add, h, show (-1 : Int32).toInt = -1 from rfl]
    exact Int.bmod_eq_of_le (by omega) (by omega)
theorem pm_yS4 {post : Int32 → SY → Prop} (hT : ∀ j, T j = nI (t j)) (hc : ∀ j, t j < 65536) (hn : n ≤ 96) (h1 : pm_Snd t n → ∀ (lf : Int32) (W : Nat → Int32), post 1 (ru, nI n, ln, cs, lf, ct, lo, T, V, Q, W, M)) (h0 : ¬ pm_Snd t n → ∀ (lf : Int32) (W : Nat → Int32), post 0 (ru, nI n, ln, cs, lf, ct, lo, T, V, Q, W, M)) : ∀ d p : Nat, p + d = n → ∀ (x : Int32) (W : Nat → Int32), x.toInt = pm_op t p → (∀ k, k ≤ p → pm_op t k ≤ 4) → (∀ j, j < p → W j = nI (t j)) → ∀ f, d < f → wY_sound_4 post ru (nI n) ln cs lf ct lo f x (nI p) T V Q W M := by
  intro d
  induction d with
  | zero =>
    intro p hp x W hx h4 hW f hf
    obtain ⟨f, rfl⟩ : ∃ x, f = x + 1 := ⟨f - 1, by omega⟩
    obtain rfl : p = n := by omega
    rw [wY_sound_4]
    refine pk_le p p (fun _ => ?_) (fun z => absurd z (by omega))
    refine ⟨98, pm_yS77 (t := t) (n := p) (fun A => h1 ⟨h4, A⟩) (fun A => h0 (fun S => A S.2)) 96 0 p (by omega) (by omega) t W hW hc Iff.rfl 98 (by omega)⟩
  | succ d ih =>
    intro p hp x W hx h4 hW f hf
    obtain ⟨f, rfl⟩ : ∃ x, f = x + 1 := ⟨f - 1, by omega⟩
    have hin : vp_in (nI p) 96 := vp_in_nI (by omega) (by decide)
    have hcl : T (nI p).toNatClampNeg = nI (t p) := by rw [nI_clamp (by omega)]; exact hT p
    have bd := pm_cnB 123 125 t (by decide) p
    have c3 := pm_cn3 123 125 t p (by decide)
    have hcp := hc p
    have key : ∀ y : Int32, y.toInt = pm_op t (p + 1) → wY_sound_52 post (wY_sound_4 post ru (nI n) ln cs lf ct lo f) y (nI p) ru (nI n) ln cs lf ct lo T V Q (upd W p (nI (t p))) M := by
      intro y hy
      unfold wY_sound_52
      refine br_c (fun g => nm_r (nI_1 p) ?_) (fun g => h0 (fun S => g ?_) _ _)
      · have g' : pm_op t (p + 1) ≤ 4 := by
          rw [Int32.le_iff_toInt_le, hy, show (4 : Int32).toInt = 4 from rfl] at g
          exact g
        refine ih (p + 1) (by omega) y _ hy (fun k hk => ?_) (fun j hj => ?_) f (by omega)
        · rcases Nat.lt_or_ge k (p + 1) with q | q
          · exact h4 k (by omega)
          · rw [show k = p + 1 by omega]; exact g'
        · by_cases z : j = p
          · subst z; rw [pk_us]
          · rw [pk_un z]; exact hW j (by omega)
      · rw [Int32.le_iff_toInt_le, hy, show (4 : Int32).toInt = 4 from rfl]
        exact S.1 (p + 1) (by omega)
    have e1 := pm_i1 hx (by unfold pm_op; omega) (by unfold pm_op; omega)
    rw [wY_sound_4]
    dsimp only
    rw [hcl, nI_clamp (n := p) (by omega)]
    refine pk_le n p (fun z => absurd z (by omega)) (fun _ => ⟨hin, hin, nm_e ⟨hin, ?_⟩⟩)
    refine pk_eq (t p) 123 (fun e => nm_e ?_) (fun e => ?_)
    · unfold wY_sound_38
      rw [hcl]
      refine ⟨hin, br_f (fun z => ?_) (key _ ?_)⟩
      · have : t p = 125 := (nI_eq (b := 125) (by omega) (by decide)).mp z
        omega
      · rw [e1.1]; unfold pm_op; rw [c3.1 e]
    · unfold wY_sound_38
      rw [hcl]
      refine ⟨hin, pk_eq (t p) 125 (fun g => nm_e (key _ ?_)) (fun g => key _ ?_)⟩
      · rw [e1.2]; unfold pm_op; rw [c3.2.1 g]
      · rw [hx]; unfold pm_op; rw [c3.2.2 e g]
theorem pm_ySound {post : Int32 → SY → Prop} (hT : ∀ j, T j = nI (t j)) (hc : ∀ j, t j < 65536) (hn : n ≤ 96) (h1 : pm_Snd t n → ∀ (lf : Int32) (W : Nat → Int32), post 1 (ru, nI n, ln, cs, lf, ct, lo, T, V, Q, W, M)) (h0 : ¬ pm_Snd t n → ∀ (lf : Int32) (W : Nat → Int32), post 0 (ru, nI n, ln, cs, lf, ct, lo, T, V, Q, W, M)) : wpY_sound post (ru, nI n, ln, cs, lf, ct, lo, T, V, Q, W, M) :=
  ⟨n + 1, pm_yS4 hT hc hn h1 h0 n 0 (by omega) 0 W rfl (fun k hk => by rw [show k = 0 by omega]; exact (by decide : (0 : Int) ≤ 4)) (fun j hj => absurd hj (Nat.not_lt_zero j)) (n + 1) (by omega)⟩
end
