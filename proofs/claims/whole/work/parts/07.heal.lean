/-! heal, file by file -/
theorem ck_heL (c : Nat) (hc : c ≤ 3) (up : Int32) (ex ln ce dn : Nat → Int32) (hd : ck_Dn dn up) : ∀ d i, i + d = 4 → ∀ (cs cu : Nat → Int32) (m : Int32), ck_Cu cu (ck_B cs) → (∀ g, g < 4 → ck_Hi (cs g)) → (∀ g, g < 4 → ex g = 0 → cs g = 0) →
    ∃ (r : Int32) (cs' cu' : Nat → Int32), ck_Cu cu' (ck_B cs') ∧ (∀ g, g < 4 → ck_Hi (cs' g)) ∧ (∀ g, g < 4 → ex g = 0 → cs' g = 0) ∧
      (∀ post : Int32 → SX → Prop, post r (nI c, up, ex, ln, cs', ce) → wX_heal_4 post (d + 1) m (nI i) (nI c) up ex ln cs ce) ∧
      (∀ post : Int32 → SY → Prop, post r (nI c, dn, ex, ln, ce, cu') → wY_heal_4 post (d + 1) m (nI i) (nI c) dn ex ln ce cu) := by
  intro d
  induction d with
  | zero =>
    intro i hi cs cu m hB hh he
    obtain rfl : i = 4 := hi
    exact ⟨m, cs, cu, hB, hh, he, fun _ hp => br_t ck_44 hp, fun _ hp => br_t ck_44 hp⟩
  | succ d ih =>
    intro i hi cs cu m hB hh he
    have hi4 : i < 4 := by omega
    by_cases ha : (cs i &&& up) = 0
    · obtain ⟨r, cs', cu', g1, g2, g3, g4, g5⟩ := ih (i + 1) (by omega) cs cu m hB hh he
      refine ⟨r, cs', cu', g1, g2, g3, fun post hp => br_f (ck_le4 hi4) (ck_xi _ _ _ _ _ _ hi4 (fun _ => br_t rfl (fun y ey => ?_)) (fun z => absurd ha z)), fun post hp => br_f (ck_le4 hi4) ?_⟩
      · subst ey
        rw [nI_1 i]
        exact g4 post hp
      · have hn : ∀ y : Int32, y = nI i + 1 → wY_heal_4 post (d + 1) m y (nI c) dn ex ln ce cu := by
          intro y ey
          subst ey
          rw [nI_1 i]
          exact g5 post hp
        by_cases hx : ex i = 0
        · exact ck_yr_n _ _ _ _ _ _ hi4 hx (br_f (by decide) hn)
        · exact ck_yr_h _ _ _ _ _ _ hi4 hx up hd cs hB (hh i hi4) (fun _ => br_f (by decide) hn) (fun z => absurd ha z)
    · have hx : ¬ ex i = 0 := by
        intro z
        apply ha
        rw [he i hi4 z]
        exact Int32.zero_and
      obtain ⟨q, cs1, cu1, f1, f2, f3, f4, f5⟩ := ck_fl c hc up ex ln ce dn hd i hi4 cs cu hB hh
      have he1 : ∀ g, g < 4 → ex g = 0 → cs1 g = 0 := by
        intro g hg z
        have hgi : g ≠ i := fun w => hx (by rw [← w]; exact z)
        rw [f3 g hgi]
        exact he g hg z
      obtain ⟨r, cs', cu', g1, g2, g3, g4, g5⟩ := ih (i + 1) (by omega) cs1 cu1 (m + q) f1 f2 he1
      refine ⟨r, cs', cu', g1, g2, g3, fun post hp => br_f (ck_le4 hi4) (ck_xi _ _ _ _ _ _ hi4 (fun z => absurd z ha) (fun _ => br_f (by decide) (f4 _ ?_))), fun post hp => br_f (ck_le4 hi4) (ck_yr _ _ _ _ _ _ hi4 hx up hd cs hB (hh i hi4) ha (br_t rfl (f5 _ ?_)))⟩
      · intro y ey z ez
        subst ey ez
        rw [nI_1 i]
        exact g4 post hp
      · intro y ey z ez
        subst ey ez
        rw [nI_1 i]
        exact g5 post hp
/-! what a changed state keeps -/
theorem ck_he_u {ex cs : Nat → Int32} {f : Nat} {a x : Int32} (h : ∀ g, g < 4 → ex g = 0 → cs g = 0) (hx : a = 0 → x = 0) : ∀ g, g < 4 → upd ex f a g = 0 → upd cs f x g = 0 := by
  intro g hg
  by_cases e : g = f
  · subst e; rw [pk_us, pk_us]; exact hx
  · rw [pk_un e, pk_un e]; exact h g hg
theorem ck_he_c {ex cs : Nat → Int32} {f : Nat} {x : Int32} (h : ∀ g, g < 4 → ex g = 0 → cs g = 0) (hx : ¬ ex f = 0) : ∀ g, g < 4 → ex g = 0 → upd cs f x g = 0 := by
  intro g hg z
  by_cases e : g = f
  · subst e; exact absurd z hx
  · rw [pk_un e]; exact h g hg z
theorem ck_hl_u {ln : Nat → Int32} {f l : Nat} {x : Int32} (h : ∀ g, g < 4 → ∃ l, l ≤ 6 ∧ ln g = nI l) (hl : l ≤ 6) (hx : x = nI l) : ∀ g, g < 4 → ∃ l, l ≤ 6 ∧ upd ln f x g = nI l := by
  intro g hg
  by_cases e : g = f
  · subst e; exact ⟨l, hl, by rw [pk_us, hx]⟩
  · rw [pk_un e]; exact h g hg
theorem ck_hl_n {ln : Nat → Int32} {f l c : Nat} (h : ∀ g, g < 4 → ∃ l, l ≤ 6 ∧ ln g = nI l) (hc : c < 6) : ∀ g, g < 4 → ∃ l', l' ≤ 6 ∧ ck_ln ln f l c g = nI l' := by
  unfold ck_ln
  by_cases e : l ≤ c
  · rw [if_pos e]; exact ck_hl_u h (l := c + 1) (by omega) rfl
  · rw [if_neg e]; exact h
theorem ck_dn_c {dn : Nat → Int32} {up : Int32} {s : Nat} (hs : s < 5) (hd : ck_Dn dn up) : ck_Dn (upd dn s 1) (up &&& (((1 : Int32) <<< (nI s &&& 31)) ^^^ (-1))) := by
  intro t ht
  rw [ck_clr up s (by omega)]
  by_cases e : t = s
  · subst e; rw [pk_us]; simp [ck_in]
  · rw [pk_un e, hd t ht]; simp [e]
theorem ck_dn_r {dn : Nat → Int32} {up : Int32} {s : Nat} (hs : s < 5) (hd : ck_Dn dn up) : ck_Dn (upd dn s 0) (up ||| ((1 : Int32) <<< (nI s &&& 31))) := by
  intro t ht
  rw [ck_set up s (by omega)]
  by_cases e : t = s
  · subst e; rw [pk_us]; simp [ck_in]
  · rw [pk_un e, hd t ht]; simp [e]
theorem ck_lc_0 (cs : Nat → Int32) (m : Int32) : ck_lc cs m 0 = cs := funext fun g => if_neg (by omega)
theorem ck_xl {post : Int32 → SX → Prop} (s r cp up : Int32) (ex ln cs ce : Nat → Int32) (hp : post r (cp, up, ex, ln, ck_lc cs (((1 : Int32) <<< (s &&& 31)) ^^^ (-1)) 4, ce)) : ∃ n, wX_loseDisk_17 post s r cp up n 0 ex ln cs ce := by
  have t := ck_xlL post s r cp up ex ln cs ce hp 4 0 rfl
  rw [ck_lc_0] at t
  exact ⟨5, t⟩
theorem ck_ol_4 {cu cs : Nat → Int32} {s : Nat} (hs : s < 5) (h : ck_Cu cu (ck_ol s 4 (ck_B cs))) : ck_Cu cu (ck_B (ck_lc cs (((1 : Int32) <<< (nI s &&& 31)) ^^^ (-1)) 4)) := by
  refine ck_Cu_c h (fun g hg t ht => ?_)
  show bt (ck_lc cs _ 4 g) t = ck_ol s 4 (ck_B cs) g t
  unfold ck_lc ck_ol
  rw [if_pos hg, ck_clr _ s (by omega)]
  by_cases e : t = s
  · rw [if_pos ⟨e, hg⟩]; simp [e]
  · rw [if_neg (fun z => e z.1)]; simp [e]
theorem ck_31 : ∀ i, i < 32 → bt 31 i = decide (i < 5) := by decide +kernel
theorem ck_n5 {x : Int32} (h : 6 ≤ x) : ¬ x ≤ 5 := fun z => absurd (Int32.le_trans h z) (by decide)
