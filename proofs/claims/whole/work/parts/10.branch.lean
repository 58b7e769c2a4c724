/-! the chosen branch on both sides -/
theorem pm_MtP {t : Nat → Nat} {n p q : Nat} (S : pm_Snd t n) (K : pm_Ky t n p q) (hv : t q ≠ 125) : pm_Mt 40 41 t n (pm_pn t q) (pm_mt 40 41 t n (pm_pn t q)) := by
  obtain ⟨o1, o2, o3, o4, o5, o6, o7⟩ := pm_KyO S K hv
  have hn := pm_SndN S
  have i := pm_SndI S (Nat.le_of_lt o1)
  obtain ⟨a, b, c, d, e⟩ := pm_mt_ok (a := 40) (b := 41) (t := t) (by decide) o1 o3 (by
    have : pm_cn 40 41 t n = 0 := hn.2
    have : pm_pd t (pm_pn t q) = pm_op t (pm_pn t q) - 1 := i.2.2.2.2.2.2 (by omega)
    have := i.2.2.2.2.1 (by omega)
    unfold pm_pd pm_op at *
    omega)
  exact ⟨a, b, c, o3, e⟩
theorem pm_MtB {t : Nat → Nat} {n p : Nat} (S : pm_Snd t n) (hp : p < n) (hc : t p = 123) : pm_Mt 123 125 t n p (pm_mt 123 125 t n p) := by
  obtain ⟨a, b, c, d, e⟩ := pm_cend S hp hc
  exact ⟨a, b, c, hc, e⟩
def pm_P3 (t : Nat → Nat) (v : Int32) (q : Nat) : Bool := decide (t q = 61) && decide (nI (t (q + 1)) - 48 = v)
def pm_P2 (t : Nat → Nat) (l : Int32) (q : Nat) : Bool := (!decide (t q = 61)) && decide (nI (t q) = l)
def pm_P1 (t : Nat → Nat) (q : Nat) : Bool := (!decide (t q = 61)) && decide (t q = 120)
def pm_br (t : Nat → Nat) (n p : Nat) (v l : Int32) : Option Nat := pm_or (pm_fd t n (pm_P3 t v) 96 (p + 3)) (pm_or (pm_fd t n (pm_P2 t l) 96 (p + 3)) (pm_fd t n (pm_P1 t) 96 (p + 3)))
section
variable {rs ty wr lb lv lk : Int32} {T V O H R : Nat → Int32} {t : Nat → Nat} {n : Nat}
theorem pm_xRk {post : Int32 → Prop} {v l : Int32} {q : Nat} (h1 : t q < 65536) (h : post (nI (pm_rk (pm_P3 t v) (pm_P2 t l) (pm_P1 t) q))) : wpX_rankOf post (nI (t q)) (nI (t (q + 1))) v l := by
  unfold wpX_rankOf
  unfold pm_rk pm_P3 pm_P2 pm_P1 at h
  refine pk_eq (t q) 61 (fun e => br_c (fun g => ?_) (fun g => ?_)) (fun e => br_c (fun g => ?_) (fun g => pk_eq (t q) 120 (fun g' => ?_) (fun g' => ?_)))
  · rw [if_pos (by simp [e, g])] at h; exact h
  · rw [if_neg (by simp [e, g]), if_neg (by simp [e]), if_neg (by simp [e])] at h; exact h
  · rw [if_neg (by simp [e]), if_pos (by simp [e, g])] at h; exact h
  · rw [if_neg (by simp [e]), if_neg (by simp [e, g]), if_pos (by simp [g'])] at h; exact h
  · rw [if_neg (by simp [e]), if_neg (by simp [e, g]), if_neg (by simp [g'])] at h; exact h
theorem pm_rk3 (P3 P2 P1 : Nat → Bool) (q : Nat) : pm_rk P3 P2 P1 q ≤ 3 := by
  unfold pm_rk
  split
  · omega
  · split
    · omega
    · split <;> omega
theorem pm_xCB12 {post : Int32 → Prop} {v l : Int32} {p : Nat} (S : pm_Snd t n) (hT : ∀ j, T j = nI (t j)) (hc : ∀ j, t j < 65536) (hn : n ≤ 96) : ∀ (d k q : Nat) (ch : Option Nat) (r : Nat), k + d = 96 → pm_Ky t n p q → r ≤ 3 → post (pm_en (pm_xr t n (pm_rk (pm_P3 t v) (pm_P2 t l) (pm_P1 t)) d q ch r)) → ∀ f, d < f → wX_chosenBranch_12 post v l rs (nI n) wr lb lv lk T V O H R f (pm_en ch) (nI r) (nI q) (nI k) := by
  intro d
  induction d with
  | zero =>
    intro k q ch r hk K hr h f hf
    obtain ⟨f, rfl⟩ : ∃ x, f = x + 1 := ⟨f - 1, by omega⟩
    rw [wX_chosenBranch_12]
    exact pk_le 96 k (fun _ => h) (fun z => absurd z (by omega))
  | succ d ih =>
    intro k q ch r hk K hr h f hf
    obtain ⟨f, rfl⟩ : ∃ x, f = x + 1 := ⟨f - 1, by omega⟩
    have hq := K.2.1
    have hcq := hc q
    rw [wX_chosenBranch_12]
    refine pk_le 96 k (fun z => absurd z (by omega)) (fun _ => pk_le n q (fun z => absurd z (by omega)) (fun _ => ?_))
    refine pm_xTA hT hn hq ?_
    rw [pm_xr] at h
    refine pk_eq (t q) 125 (fun e => ?_) (fun e => ?_)
    · rw [if_pos (Or.inr e)] at h; exact h
    · rw [if_neg (fun z => z.elim (fun y => absurd y (by omega)) e)] at h
      obtain ⟨o1, o2, o3, o4, o5, o6, o7⟩ := pm_KyO S K e
      obtain ⟨n1, n2, n3⟩ := pm_KyN S K e
      have hM := pm_MtP S K e
      have rk3 := pm_rk3 (pm_P3 t v) (pm_P2 t l) (pm_P1 t) q
      rw [nI_1 q]
      refine pm_xTA hT hn (by omega) ?_
      refine pm_xRk hcq ?_
      have go : wX_chosenBranch_85 post (wX_chosenBranch_12 post v l rs (nI n) wr lb lv lk T V O H R f) v l (pm_en ch) (nI r) (nI k) (nI (pm_rk (pm_P3 t v) (pm_P2 t l) (pm_P1 t) q)) (nI (pm_pn t q)) rs (nI n) wr lb lv lk T V O H R := by
        unfold wX_chosenBranch_85
        refine pk_le (pm_rk (pm_P3 t v) (pm_P2 t l) (pm_P1 t) q) r (fun g => ?_) (fun g => nm_r (e' := pm_en (some (pm_pn t q + 1))) (nI_1 _) ?_)
        · rw [if_neg (by omega)] at h
          unfold wX_chosenBranch_104
          refine pm_xAM (a := 40) (b := 41) (by decide) (by decide) (by decide) hT hc hn hM (nm_r (nI_1 k) ?_)
          exact ih (k + 1) _ ch r (by omega) n3 hr h f (by omega)
        · rw [if_pos g] at h
          unfold wX_chosenBranch_104
          refine pm_xAM (a := 40) (b := 41) (by decide) (by decide) (by decide) hT hc hn hM (nm_r (nI_1 k) ?_)
          exact ih (k + 1) _ _ _ (by omega) n3 rk3 h f (by omega)
      refine pk_eq (t q) 61 (fun z => ?_) (fun z => ?_)
      · rw [show pm_pn t q = q + 2 from if_pos z] at go
        rw [show nI q + 2 = nI (q + 2) from nI_add q 2]
        exact go
      · rw [show pm_pn t q = q + 1 from if_neg z] at go
        exact go
theorem pm_xCB {post : Int32 → Prop} {v l : Int32} {p : Nat} (S : pm_Snd t n) (hT : ∀ j, T j = nI (t j)) (hc : ∀ j, t j < 65536) (hn : n ≤ 96) (K : pm_Ky t n p (p + 3)) (h : post (pm_en (pm_br t n p v l))) : wpX_chosenBranch post (rs, nI n, wr, lb, lv, lk, T, V, O, H, R) (nI (p + 3)) v l := by
  refine ⟨97, pm_xCB12 (p := p) S hT hc hn 96 0 (p + 3) none 0 (by omega) K (by omega) ?_ 97 (by omega)⟩
  rw [pm_xr_sel]
  unfold pm_sel
  rw [if_neg (by omega), if_neg (by omega), if_neg (by omega)]
  unfold pm_br at h
  have e : ∀ a : Option Nat, pm_or a none = a := fun a => by cases a <;> rfl
  rw [e]
  exact h
theorem pm_xEn {post : Int32 → SX → Prop} {p r L : Nat} (S : pm_Snd t n) (hT : ∀ j, T j = nI (t j)) (hc : ∀ j, t j < 65536) (hn : n ≤ 96) (hr : r ≤ 2) (hp : p < n) (hs : pm_st t p = 0) (hb : t p = 123) (hv : t (p + 2) ≠ 125) (hL : L < 4)
    (h0 : pm_br t n p (V (t (p + 1) - 48)) (pm_lt r (t (p + 2)) (V (t (p + 1) - 48))) = none → post (nI (pm_mt 123 125 t n p + 1)) (nI r, nI n, wr, lb, nI L, lk ||| ((1 : Int32) <<< (nI (t (p + 1) - 48) &&& 31)), T, V, O, H, R))
    (h1 : ∀ b, pm_br t n p (V (t (p + 1) - 48)) (pm_lt r (t (p + 2)) (V (t (p + 1) - 48))) = some b → b ≤ 96 ∧ post (nI b) (nI r, nI n, wr, lb, nI (L + 1), lk ||| ((1 : Int32) <<< (nI (t (p + 1) - 48) &&& 31)), T, V, O, upd H (L + 1) (if t (p + 2) = 63 then nI (t (p + 1) - 48) else H L), upd R (L + 1) (nI (pm_mt 123 125 t n p + 1)))) :
    wpX_enterChoice post (nI r, nI n, wr, lb, nI L, lk, T, V, O, H, R) (nI p) := by
  obtain ⟨b1, b2, b3, b4, b5, b6⟩ := pm_brace S hp hs hb
  have K := pm_Ky0 S hp hs hb hv
  have M := pm_MtB S hp hb
  have hc2 := hc (p + 2)
  have s52 : ∀ z : Int32, (z = if t (p + 2) = 63 then 1 else 0) → wX_enterChoice_52 post (nI p) (nI (t (p + 1) - 48)) z (V (t (p + 1) - 48)) (pm_lt r (t (p + 2)) (V (t (p + 1) - 48))) (nI r) (nI n) wr lb (nI L) lk T V O H R := by
    intro z hz
    unfold wX_enterChoice_52
    refine nm_e ?_
    rw [show nI p + 3 = nI (p + 3) from nI_add p 3]
    refine pm_xCB S hT hc hn K ?_
    refine pm_xAM (a := 123) (b := 125) (by decide) (by decide) (by decide) hT hc hn M ?_
    cases e : pm_br t n p (V (t (p + 1) - 48)) (pm_lt r (t (p + 2)) (V (t (p + 1) - 48))) with
    | none => exact br_t rfl (h0 e)
    | some b =>
      obtain ⟨hb96, hpost⟩ := h1 b e
      have nb : ¬ pm_en (some b) = -1 := by
        intro y
        have y' : nI b = -1 := y
        have := congrArg Int32.toInt y'
        rw [nI_toInt (by omega)] at this
        have e1 : (-1 : Int32).toInt = -1 := rfl
        omega
      refine br_f nb (pk_lt L 0 (fun y => absurd y (by omega)) (fun _ => pk_lt L 4 (fun _ => ?_) (fun y => absurd y (by omega))))
      have fin : ∀ x : Int32, x = (if t (p + 2) = 63 then nI (t (p + 1) - 48) else H L) → wX_enterChoice_141 post (pm_en (some b)) (nI (pm_mt 123 125 t n p + 1)) x (nI L + 1) (nI r) (nI n) wr lb (nI L) (lk ||| ((1 : Int32) <<< (nI (t (p + 1) - 48) &&& 31))) T V O H R := by
        intro x hx
        unfold wX_enterChoice_141
        rw [nI_1 L, nI_clamp (n := L + 1) (by omega)]
        refine ⟨vp_in_nI (by omega) (by decide), nm_r (by rw [hx]) ⟨vp_in_nI (by omega) (by decide), nm_e (nm_e hpost)⟩⟩
      by_cases c : t (p + 2) = 63
      · rw [if_pos c] at hz
        exact br_f (by rw [hz]; decide) (fin _ (by rw [if_pos c]))
      · rw [if_neg c] at hz
        refine br_t hz ⟨vp_in_nI (by omega) (by decide), ?_⟩
        rw [nI_clamp (n := L) (by omega)]
        exact fin _ (by rw [if_neg c])
  unfold wpX_enterChoice
  rw [nI_1 p, show nI p + 2 = nI (p + 2) from nI_add p 2]
  refine pm_xAA hT hn (by omega) b2 b3 ?_
  refine pm_xTA hT hn b1 ?_
  have hin : vp_in (nI (t (p + 1) - 48)) 4 := vp_in_nI (by omega) (by decide)
  have hcl : (nI (t (p + 1) - 48)).toNatClampNeg = t (p + 1) - 48 := nI_clamp (by omega)
  refine pk_eq (t (p + 2)) 63 (fun e => ?_) (fun e => ?_)
  · unfold wX_enterChoice_25
    rw [hcl]
    refine ⟨hin, nm_e (br_f (by decide) ?_)⟩
    refine pm_xPL hr ?_
    have q := s52 1 (by rw [if_pos e])
    rw [show pm_lt r (t (p + 2)) (V (t (p + 1) - 48)) = nI (pm_pL r (V (t (p + 1) - 48)).toInt.natAbs) from if_pos e] at q
    exact q
  · unfold wX_enterChoice_25
    rw [hcl]
    refine ⟨hin, nm_e (br_t rfl ?_)⟩
    refine pm_xSel ?_
    have q := s52 0 (by rw [if_neg e])
    rw [show pm_lt r (t (p + 2)) (V (t (p + 1) - 48)) = pm_sL (V (t (p + 1) - 48)) from if_neg e] at q
    exact q
end
section
variable {ru nn ln cs lf ct lo : Int32} {T V Q W M : Nat → Int32} {t : Nat → Nat} {n : Nat}
def pm_PY (t : Nat → Nat) (dg : Bool) (key : Int32) (q : Nat) : Bool := (decide (t q = 61) == dg) && decide (nI (t (pm_pn t q - 1)) = key)
theorem pm_yBO8 {post : Int32 → Prop} {x2 key : Int32} {dg : Bool} {p : Nat} (hx : x2 = if dg = true then 1 else 0) (S : pm_Snd t n) (hT : ∀ j, T j = nI (t j)) (hc : ∀ j, t j < 65536) (hn : n ≤ 96) : ∀ d k q : Nat, k + d = 96 → pm_Ky t n p q → post (pm_en (pm_fd t n (pm_PY t dg key) d q)) → ∀ f, d < f → wY_branchOf_8 post x2 key ru (nI n) ln cs lf ct lo T V Q W M f (nI q) (nI k) := by
  intro d
  induction d with
  | zero =>
    intro k q hk K h f hf
    obtain ⟨f, rfl⟩ : ∃ x, f = x + 1 := ⟨f - 1, by omega⟩
    rw [wY_branchOf_8]
    exact pk_le 96 k (fun _ => h) (fun z => absurd z (by omega))
  | succ d ih =>
    intro k q hk K h f hf
    obtain ⟨f, rfl⟩ : ∃ x, f = x + 1 := ⟨f - 1, by omega⟩
    have hq := K.2.1
    have hcq := hc q
    have hin : vp_in (nI q) 96 := vp_in_nI (by omega) (by decide)
    have hcl : T (nI q).toNatClampNeg = nI (t q) := by rw [nI_clamp (by omega)]; exact hT q
    rw [wY_branchOf_8]
    dsimp only
    rw [hcl]
    refine pk_le 96 k (fun z => absurd z (by omega)) (fun _ => pk_le n q (fun z => absurd z (by omega)) (fun _ => ⟨hin, ?_⟩))
    rw [pm_fd] at h
    refine pk_eq (t q) 125 (fun e => ?_) (fun e => ⟨hin, ?_⟩)
    · rw [if_pos (Or.inr e)] at h; exact h
    · rw [if_neg (fun z => z.elim (fun y => absurd y (by omega)) e)] at h
      obtain ⟨o1, o2, o3, o4, o5, o6, o7⟩ := pm_KyO S K e
      obtain ⟨n1, n2, n3⟩ := pm_KyN S K e
      have hM := pm_MtP S K e
      have tail : ¬ pm_PY t dg key q = true → wY_branchOf_96 post (wY_branchOf_8 post x2 key ru (nI n) ln cs lf ct lo T V Q W M f) x2 key (nI k) (nI (pm_pn t q)) ru (nI n) ln cs lf ct lo T V Q W M := by
        intro np
        rw [if_neg np] at h
        unfold wY_branchOf_96
        refine pm_yCl (a := 40) (b := 41) (by decide) (by decide) (by decide) hT hc hn hM (nm_r (nI_1 _) (nm_r (nI_1 k) ?_))
        exact ih (k + 1) _ (by omega) n3 h f (by omega)
      have go : ∀ nb : Int32, (nb = x2 ↔ (decide (t q = 61) == dg) = true) → wY_branchOf_71 post (wY_branchOf_8 post x2 key ru (nI n) ln cs lf ct lo T V Q W M f) x2 key (nI k) nb (nI (pm_pn t q)) ru (nI n) ln cs lf ct lo T V Q W M := by
        intro nb hnb
        unfold wY_branchOf_71
        refine br_c (fun z => ?_) (fun z => tail (fun y => z (hnb.mpr ?_)))
        · rw [show nI (pm_pn t q) - 1 = nI (pm_pn t q - 1) from pk_sub (b := 1) (by omega)]
          refine pm_yTA hT hn (by omega) ?_
          have z' := hnb.mp z
          refine br_c (fun g => ?_) (fun g => tail (fun y => g ?_))
          · have : pm_PY t dg key q = true := by unfold pm_PY; rw [z', Bool.true_and]; exact decide_eq_true g
            rw [if_pos this] at h
            rw [nI_1]
            exact h
          · unfold pm_PY at y
            exact of_decide_eq_true (Bool.and_eq_true_iff.mp y).2
        · unfold pm_PY at y
          exact (Bool.and_eq_true_iff.mp y).1
      refine pk_eq (t q) 61 (fun z => ?_) (fun z => ?_)
      · unfold wY_branchOf_53
        have g := go 1 (by rw [hx]; cases dg <;> simp [z])
        rw [show pm_pn t q = q + 2 from if_pos z] at g
        rw [show nI q + 2 = nI (q + 2) from nI_add q 2]
        exact br_f (by decide) g
      · unfold wY_branchOf_53
        have g := go 0 (by rw [hx]; cases dg <;> simp [z])
        rw [show pm_pn t q = q + 1 from if_neg z] at g
        rw [nI_1 q]
        exact br_t rfl g
theorem pm_yBO {post : Int32 → Prop} {x2 key : Int32} (dg : Bool) {p : Nat} (hx : x2 = if dg = true then 1 else 0) (S : pm_Snd t n) (hT : ∀ j, T j = nI (t j)) (hc : ∀ j, t j < 65536) (hn : n ≤ 96) (K : pm_Ky t n p (p + 3)) (h : post (pm_en (pm_fd t n (pm_PY t dg key) 96 (p + 3)))) : wpY_branchOf post (ru, nI n, ln, cs, lf, ct, lo, T, V, Q, W, M) (nI p) x2 key := by
  unfold wpY_branchOf
  exact nm_r (nI_add p 3) ⟨97, pm_yBO8 (p := p) hx S hT hc hn 96 0 (p + 3) (by omega) K h 97 (by omega)⟩
theorem pm_fd_f (t : Nat → Nat) (n : Nat) : ∀ d q, pm_fd t n (fun _ => false) d q = none := by
  intro d
  induction d with
  | zero => intro q; rfl
  | succ d ih =>
    intro q
    rw [pm_fd]
    split
    · rfl
    · rw [if_neg (by simp), ih]
theorem pm_eq3 {t : Nat → Nat} {n p : Nat} {v : Int32} (S : pm_Snd t n) (K : pm_Ky t n p (p + 3)) : pm_fd t n (pm_PY t true (48 + v)) 96 (p + 3) = pm_fd t n (pm_P3 t v) 96 (p + 3) := by
  refine pm_fd_eq (p := p) S _ _ (fun q Kq hv => ?_) 96 (p + 3) K
  unfold pm_PY pm_P3
  by_cases z : t q = 61
  · rw [show pm_pn t q = q + 2 from if_pos z, show q + 2 - 1 = q + 1 by omega]
    have : (nI (t (q + 1)) = 48 + v) ↔ (nI (t (q + 1)) - 48 = v) := by
      generalize nI (t (q + 1)) = x
      constructor <;> intro h <;> grind
    simp only [z, this]
    rfl
  · simp [z]
theorem pm_eq2 {t : Nat → Nat} {n p : Nat} {l : Int32} (S : pm_Snd t n) (K : pm_Ky t n p (p + 3)) : pm_fd t n (pm_PY t false l) 96 (p + 3) = pm_fd t n (pm_P2 t l) 96 (p + 3) := by
  refine pm_fd_eq (p := p) S _ _ (fun q Kq hv => ?_) 96 (p + 3) K
  unfold pm_PY pm_P2
  by_cases z : t q = 61
  · simp [z]
  · rw [show pm_pn t q = q + 1 from if_neg z, show q + 1 - 1 = q by omega]
    simp [z]
theorem pm_eq1 {t : Nat → Nat} {n p : Nat} (hc : ∀ j, t j < 65536) (S : pm_Snd t n) (K : pm_Ky t n p (p + 3)) : pm_fd t n (pm_PY t false 120) 96 (p + 3) = pm_fd t n (pm_P1 t) 96 (p + 3) := by
  refine pm_fd_eq (p := p) S _ _ (fun q Kq hv => ?_) 96 (p + 3) K
  unfold pm_PY pm_P1
  by_cases z : t q = 61
  · simp [z]
  · rw [show pm_pn t q = q + 1 from if_neg z, show q + 1 - 1 = q by omega]
    have hq := hc q
    have : (nI (t q) = 120) ↔ t q = 120 := nI_eq (b := 120) (by omega) (by decide)
    simp only [this]
    simp [z]
theorem pm_no3 {t : Nat → Nat} {n p : Nat} {v : Int32} (S : pm_Snd t n) (K : pm_Ky t n p (p + 3)) (hv : v < 0 ∨ 9 < v) : pm_fd t n (pm_P3 t v) 96 (p + 3) = none := by
  rw [← pm_fd_f t n 96 (p + 3)]
  refine pm_fd_eq (p := p) S _ _ (fun q Kq hq => ?_) 96 (p + 3) K
  unfold pm_P3
  by_cases z : t q = 61
  · have d := ((pm_KyO S Kq hq).2.2.2.1 z).1
    unfold pm_dg at d
    rw [show nI (t (q + 1)) - 48 = nI (t (q + 1) - 48) from pk_sub (b := 48) (by omega)]
    have ne : ¬ nI (t (q + 1) - 48) = v := by
      intro y
      rw [← y] at hv
      rcases hv with hv | hv
      · exact nI_pos (by omega) hv
      · have := (nI_ltI (a := 9) (by decide) (by omega)).mp hv
        omega
    simp [ne]
  · simp [z]
def pm_fi (t : Nat → Nat) (n p : Nat) (o : Option Nat) : Int32 := match o with
  | some b => nI b
  | none => nI (pm_mt 123 125 t n p + 1)
theorem pm_yC69 {post : Int32 → Prop} {p : Nat} (o : Option Nat) (S : pm_Snd t n) (hT : ∀ j, T j = nI (t j)) (hc : ∀ j, t j < 65536) (hn : n ≤ 96) (hp : p < n) (hb : t p = 123) (ho : ∀ b, o = some b → b ≤ 96) (h : post (pm_fi t n p o)) : wY_chosen_69 post (nI p) (pm_en o) ru (nI n) ln cs lf ct lo T V Q W M := by
  unfold wY_chosen_69
  cases o with
  | some b =>
    have := ho b rfl
    exact br_t (nI_pos' (by omega)) h
  | none =>
    refine br_f (show ¬ (0 : Int32) ≤ -1 by decide) ?_
    refine pm_yCl (a := 123) (b := 125) (by decide) (by decide) (by decide) hT hc hn (pm_MtB S hp hb) ?_
    rw [nI_1]
    exact h
theorem pm_yC56 {post : Int32 → Prop} {p : Nat} (o : Option Nat) (S : pm_Snd t n) (hT : ∀ j, T j = nI (t j)) (hc : ∀ j, t j < 65536) (hn : n ≤ 96) (hp : p < n) (hb : t p = 123) (K : pm_Ky t n p (p + 3)) (ho : ∀ b, o = some b → b ≤ 96) (h : post (pm_fi t n p (pm_or o (pm_fd t n (pm_P1 t) 96 (p + 3))))) : wY_chosen_56 post (nI p) (pm_en o) ru (nI n) ln cs lf ct lo T V Q W M := by
  unfold wY_chosen_56
  cases o with
  | some b =>
    have := ho b rfl
    exact br_t (nI_pos' (by omega)) (pm_yC69 (some b) S hT hc hn hp hb ho h)
  | none =>
    refine br_f (show ¬ (0 : Int32) ≤ -1 by decide) ?_
    refine pm_yBO false rfl S hT hc hn K ?_
    rw [pm_eq1 hc S K]
    exact pm_yC69 _ S hT hc hn hp hb (fun b e => by have := (pm_fd_in S _ 96 (p + 3) b K e).2.1; omega) h
theorem pm_yC24 {post : Int32 → Prop} {p r : Nat} {v : Int32} (o : Option Nat) (S : pm_Snd t n) (hT : ∀ j, T j = nI (t j)) (hc : ∀ j, t j < 65536) (hn : n ≤ 96) (hr : r ≤ 2) (hp : p + 2 < n) (hb : t p = 123) (K : pm_Ky t n p (p + 3)) (ho : ∀ b, o = some b → b ≤ 96) (h : post (pm_fi t n p (pm_or o (pm_or (pm_fd t n (pm_P2 t (pm_lt r (t (p + 2)) v)) 96 (p + 3)) (pm_fd t n (pm_P1 t) 96 (p + 3)))))) : wY_chosen_24 post (nI p) v (pm_en o) (nI r) (nI n) ln cs lf ct lo T V Q W M := by
  unfold wY_chosen_24
  rw [show nI p + 2 = nI (p + 2) from nI_add p 2]
  refine pm_yTA hT hn hp ?_
  refine pm_yLO hr (hc _) ?_
  cases o with
  | some b =>
    have := ho b rfl
    exact br_t (nI_pos' (by omega)) (pm_yC56 (some b) S hT hc hn (by omega) hb K ho h)
  | none =>
    refine br_f (show ¬ (0 : Int32) ≤ -1 by decide) ?_
    refine pm_yBO false rfl S hT hc hn K ?_
    rw [pm_eq2 S K]
    exact pm_yC56 _ S hT hc hn (by omega) hb K (fun b e => by have := (pm_fd_in S _ 96 (p + 3) b K e).2.1; omega) h
theorem pm_yCh {post : Int32 → Prop} {p r : Nat} {v : Int32} (S : pm_Snd t n) (hT : ∀ j, T j = nI (t j)) (hc : ∀ j, t j < 65536) (hn : n ≤ 96) (hr : r ≤ 2) (hp : p + 2 < n) (hb : t p = 123) (K : pm_Ky t n p (p + 3)) (h : post (pm_fi t n p (pm_br t n p v (pm_lt r (t (p + 2)) v)))) : wpY_chosen post (nI r, nI n, ln, cs, lf, ct, lo, T, V, Q, W, M) (nI p) v := by
  unfold pm_br at h
  unfold wpY_chosen
  have neg : (v < 0 ∨ 9 < v) → wY_chosen_23 post (nI p) v (nI r) (nI n) ln cs lf ct lo T V Q W M := by
    intro hv
    rw [pm_no3 S K hv] at h
    unfold wY_chosen_23
    exact pm_yC24 none S hT hc hn hr hp hb K (fun b e => nomatch e) h
  refine br_c (fun a => neg (Or.inl a)) (fun a => br_c (fun b => neg (Or.inr b)) (fun b => ?_))
  refine pm_yBO true rfl S hT hc hn K ?_
  rw [pm_eq3 S K]
  exact pm_yC24 _ S hT hc hn hr hp hb K (fun b e => by have := (pm_fd_in S _ 96 (p + 3) b K e).2.1; omega) h
end
