/-! create: the cells and the row of the reference -/
def ck_zr (ce : Nat → Int32) (f : Nat) : Nat → Nat → Int32
  | 0 => ce
  | i + 1 => upd (ck_zr ce f i) (f * 6 + i) 0
theorem ck_xzL (post : Int32 → SX → Prop) (f : Nat) (hf : f < 4) (cp up : Int32) (ex ln cs ce : Nat → Int32) (K : wX_create_47 post (nI f) cp up 1 (nI 6) ex ln cs (ck_zr ce f 6)) : ∀ d i, i + d = 6 → wX_create_47 post (nI f) cp up (d + 1) (nI i) ex ln cs (ck_zr ce f i) := by
  intro d
  induction d with
  | zero =>
    intro i hi
    obtain rfl : i = 6 := hi
    exact K
  | succ d ih =>
    intro i hi
    refine br_f (ck_le6 (by omega)) ⟨ck_i6 hf (by omega), fun a ea y ey => ?_⟩
    subst ea ey
    rw [ck_c6 hf (by omega), nI_1 i]
    exact ih (i + 1) (by omega)
theorem ck_yzL (post : Int32 → SY → Prop) (f : Nat) (hf : f < 4) (wt : Int32) (dn ex ln ce cu : Nat → Int32) (K : wY_create_73 post (nI f) wt 1 (nI 6) dn ex ln (ck_zr ce f 6) cu) : ∀ d i, i + d = 6 → wY_create_73 post (nI f) wt (d + 1) (nI i) dn ex ln (ck_zr ce f i) cu := by
  intro d
  induction d with
  | zero =>
    intro i hi
    obtain rfl : i = 6 := hi
    exact K
  | succ d ih =>
    intro i hi
    refine br_f (ck_le6 (by omega)) ⟨ck_i6 hf (by omega), fun a ea y ey => ?_⟩
    subst ea ey
    rw [ck_c6 hf (by omega), nI_1 i]
    exact ih (i + 1) (by omega)
theorem ck_ycL (post : Int32 → SY → Prop) (f : Nat) (hf : f < 4) (wt : Int32) (dn ex ln ce cu : Nat → Int32) (hz : ∀ s, s < 5 → cu (f * 5 + s) = 0) (K : wY_create_24 post (nI f) wt 1 (nI 5) dn ex ln ce cu) : ∀ d i, i + d = 5 → wY_create_24 post (nI f) wt (d + 1) (nI i) dn ex ln ce cu := by
  intro d
  induction d with
  | zero =>
    intro i hi
    obtain rfl : i = 5 := hi
    exact K
  | succ d ih =>
    intro i hi
    have hi5 : i < 5 := by omega
    refine br_f (ck_le5 hi5) ⟨ck_i5 hf hi5, fun a ea y ey => ?_⟩
    subst ea ey
    rw [ck_c5 hf hi5, ck_nar0, ck_us (hz i hi5), nI_1 i]
    exact ih (i + 1) (by omega)
/-! remove -/
theorem ck_yrL (post : Int32 → SY → Prop) (f : Nat) (hf : f < 4) (wt : Int32) (dn ex ln ce cs : Nat → Int32) (K : ∀ cu' : Nat → Int32, ck_Cu cu' (ck_B (upd cs f 0)) → post 0 (wt, dn, ex, ln, ce, cu')) : ∀ d i, i + d = 5 → ∀ cu : Nat → Int32, ck_Cu cu (ck_ov f i (fun _ => false) (ck_B cs)) → wY_remove_31 post (nI f) wt (d + 1) (nI i) dn ex ln ce cu := by
  intro d
  induction d with
  | zero =>
    intro i hi cu hcu
    obtain rfl : i = 5 := hi
    exact br_t ck_55 (K cu (ck_ov_5 (fun s _ => b_0 s) hcu))
  | succ d ih =>
    intro i hi cu hcu
    have hi5 : i < 5 := by omega
    refine br_f (ck_le5 hi5) ⟨ck_i5 hf hi5, fun a ea y ey => ?_⟩
    subst ea ey
    rw [ck_c5 hf hi5, ck_nar0, nI_1 i]
    exact ih (i + 1) (by omega) _ (ck_ov_s hi5 hcu)
/-! snapshot -/
def ck_sc (ce : Nat → Int32) (f t : Nat) : Nat → Nat → Int32
  | 0 => ce
  | i + 1 => upd (ck_sc ce f t i) (t * 6 + i) (ck_sc ce f t i (f * 6 + i))
theorem ck_xsL (post : Int32 → SX → Prop) (f t : Nat) (hf : f < 4) (ht : t < 4) (cp up : Int32) (ex ln cs ce : Nat → Int32) (K : wX_snapshot_84 post (nI f) (nI t) cp up 1 (nI 6) ex ln cs (ck_sc ce f t 6)) : ∀ d i, i + d = 6 → wX_snapshot_84 post (nI f) (nI t) cp up (d + 1) (nI i) ex ln cs (ck_sc ce f t i) := by
  intro d
  induction d with
  | zero =>
    intro i hi
    obtain rfl : i = 6 := hi
    exact K
  | succ d ih =>
    intro i hi
    refine br_f (ck_le6 (by omega)) ⟨ck_i6 hf (by omega), ck_i6 ht (by omega), fun a ea y ey => ?_⟩
    subst ea ey
    rw [ck_c6 hf (by omega), ck_c6 ht (by omega), nI_1 i]
    exact ih (i + 1) (by omega)
theorem ck_ysL (post : Int32 → SY → Prop) (f t : Nat) (hf : f < 4) (ht : t < 4) (wt : Int32) (dn ex ln ce cu : Nat → Int32) (K : wY_snapshot_74 post (nI f) (nI t) wt 1 (nI 6) dn ex ln (ck_sc ce f t 6) cu) : ∀ d i, i + d = 6 → wY_snapshot_74 post (nI f) (nI t) wt (d + 1) (nI i) dn ex ln (ck_sc ce f t i) cu := by
  intro d
  induction d with
  | zero =>
    intro i hi
    obtain rfl : i = 6 := hi
    exact K
  | succ d ih =>
    intro i hi
    refine br_f (ck_le6 (by omega)) ⟨ck_i6 hf (by omega), ck_i6 ht (by omega), fun a ea y ey => ?_⟩
    subst ea ey
    rw [ck_c6 hf (by omega), ck_c6 ht (by omega), nI_1 i]
    exact ih (i + 1) (by omega)
theorem ck_ytL (post : Int32 → SY → Prop) (f t : Nat) (hf : f < 4) (ht : t < 4) (hft : ¬ f = t) (wt : Int32) (dn ex ln ce : Nat → Int32) (up : Int32) (hd : ck_Dn dn up) (cs : Nat → Int32) (K : ∀ cu' : Nat → Int32, ck_Cu cu' (ck_B (upd cs t (cs f))) → post (nI (ck_cnt (bt (cs f)) 5)) (wt, dn, ex, ln, ce, cu')) : ∀ d i, i + d = 5 → ∀ cu : Nat → Int32, ck_Cu cu (ck_ov t i (fun s => bt (cs f) s) (ck_B cs)) → wY_snapshot_110 post (nI f) (nI t) wt (d + 1) (nI i) dn ex ln ce cu := by
  intro d
  induction d with
  | zero =>
    intro i hi cu hcu
    obtain rfl : i = 5 := hi
    have hB := ck_ov_5 (x := cs f) (fun s _ => rfl) hcu
    refine br_t ck_55 (ck_ho t ht 0 wt dn ex ln ce cu up hd _ hB (bt (cs f)) (fun s _ => ?_) (K cu hB))
    show _ = (bt (upd cs t (cs f) t) s && _)
    rw [pk_us]
    simp
  | succ d ih =>
    intro i hi cu hcu
    have hi5 : i < 5 := by omega
    refine br_f (ck_le5 hi5) ⟨ck_i5 hf hi5, ck_i5 ht hi5, fun a ea y ey => ?_⟩
    subst ea ey
    have e : ck_ov t i (fun s => bt (cs f) s) (ck_B cs) f i = bt (cs f) i := if_neg (fun z => hft z.1)
    rw [ck_c5 hf hi5, ck_c5 ht hi5, hcu f hf i hi5, ck_narI, e, nI_1 i]
    exact ih (i + 1) (by omega) _ (ck_ov_s hi5 hcu)
/-! loseDisk -/
def ck_lc (cs : Nat → Int32) (m : Int32) (i : Nat) : Nat → Int32 := fun g => if g < i then cs g &&& m else cs g
theorem ck_lc_s (cs : Nat → Int32) (m : Int32) (i : Nat) : upd (ck_lc cs m i) i (ck_lc cs m i i &&& m) = ck_lc cs m (i + 1) := by
  funext g
  by_cases e : g = i
  · subst e
    rw [pk_us]
    unfold ck_lc
    rw [if_neg (by omega), if_pos (by omega)]
  · rw [pk_un e]
    unfold ck_lc
    by_cases z : g < i
    · rw [if_pos z, if_pos (by omega)]
    · rw [if_neg z, if_neg (by omega)]
theorem ck_xlL (post : Int32 → SX → Prop) (s r cp up : Int32) (ex ln cs ce : Nat → Int32) (hp : post r (cp, up, ex, ln, ck_lc cs (((1 : Int32) <<< (s &&& 31)) ^^^ (-1)) 4, ce)) : ∀ d i, i + d = 4 → wX_loseDisk_17 post s r cp up (d + 1) (nI i) ex ln (ck_lc cs (((1 : Int32) <<< (s &&& 31)) ^^^ (-1)) i) ce := by
  intro d
  induction d with
  | zero =>
    intro i hi
    obtain rfl : i = 4 := hi
    exact br_t ck_44 hp
  | succ d ih =>
    intro i hi
    have hi4 : i < 4 := by omega
    refine br_f (ck_le4 hi4) ⟨vp_in_nI hi4 (by omega), vp_in_nI hi4 (by omega), fun a ea y ey => ?_⟩
    subst ea ey
    rw [ck_cl (f := i) (by omega), ck_lc_s, nI_1 i]
    exact ih (i + 1) (by omega)
def ck_ol (s i : Nat) (B : Nat → Nat → Bool) : Nat → Nat → Bool := fun g t => if t = s ∧ g < i then false else B g t
theorem ck_ylL (post : Int32 → SY → Prop) (s : Nat) (hs : s < 5) (r wt : Int32) (dn ex ln ce : Nat → Int32) (B : Nat → Nat → Bool) (K : ∀ cu' : Nat → Int32, ck_Cu cu' (ck_ol s 4 B) → post r (wt, dn, ex, ln, ce, cu')) : ∀ d i, i + d = 4 → ∀ cu : Nat → Int32, ck_Cu cu (ck_ol s i B) → wY_loseDisk_18 post (nI s) r wt (d + 1) (nI i) dn ex ln ce cu := by
  intro d
  induction d with
  | zero =>
    intro i hi cu hcu
    obtain rfl : i = 4 := hi
    exact br_t ck_44 (K cu hcu)
  | succ d ih =>
    intro i hi cu hcu
    have hi4 : i < 4 := by omega
    refine br_f (ck_le4 hi4) ⟨ck_i5 hi4 hs, fun a ea y ey => ?_⟩
    subst ea ey
    rw [ck_c5 hi4 hs, ck_nar0, nI_1 i]
    refine ih (i + 1) (by omega) _ (ck_Cu_u (b := false) hcu hs (if_pos ⟨rfl, by omega⟩) (fun g hg t ht n => ?_))
    unfold ck_ol
    by_cases z : t = s ∧ g < i
    · rw [if_pos z, if_pos ⟨z.1, by omega⟩]
    · rw [if_neg z, if_neg (by omega)]
/-! replicas -/
theorem ck_ymL (post : Int32 → Prop) (f : Nat) (hf : f < 4) (wt : Int32) (dn ex ln ce cu cs : Nat → Int32) (hB : ck_Cu cu (ck_B cs)) (hh : ck_Hi (cs f)) (hp : post (cs f)) : ∀ d i, i + d = 5 → ∀ x : Int32, (∀ j, bt x j = (decide (j < i) && bt (cs f) j)) → wY_replicas_26 post (nI f) wt dn ex ln ce cu (d + 1) x (nI i) := by
  intro d
  induction d with
  | zero =>
    intro i hi x hx
    obtain rfl : i = 5 := hi
    have e : x = cs f := by
      refine ck_ext (fun j hj => ?_) hh (fun j hj => ?_)
      · rw [hx j, hh j hj, Bool.and_false]
      · rw [hx j, decide_eq_true hj, Bool.true_and]
    subst e
    exact br_t ck_55 hp
  | succ d ih =>
    intro i hi x hx
    have hi5 : i < 5 := by omega
    refine br_f (ck_le5 hi5) ⟨ck_i5 hf hi5, ?_⟩
    rw [ck_c5 hf hi5, hB f hf i hi5]
    cases hb : bt (cs f) i
    · refine br_t (ck_in_f hb) (fun y ey => ?_)
      subst ey
      rw [nI_1 i]
      refine ih (i + 1) (by omega) x (fun j => ?_)
      rw [hx j]
      by_cases e : j = i
      · subst e; rw [hb, Bool.and_false, Bool.and_false]
      · rw [show decide (j < i) = decide (j < i + 1) from decide_eq_decide.mpr (by omega)]
    · refine br_f (ck_in_t hb) (fun y ey z ez => ?_)
      subst ey ez
      rw [nI_1 i]
      refine ih (i + 1) (by omega) _ (fun j => ?_)
      rw [ck_set x i (by omega), hx j]
      by_cases e : j = i
      · subst e; simp [hb]
      · rw [show decide (j < i) = decide (j < i + 1) from decide_eq_decide.mpr (by omega)]
        simp [e]
