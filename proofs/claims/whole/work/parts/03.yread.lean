/-! the reading methods of the reference -/
theorem ck_ldL (post : Int32 → Prop) (s : Nat) (hs : s < 5) (wt : Int32) (dn ex ln ce cu : Nat → Int32) (B : Nat → Nat → Bool) (hB : ck_Cu cu B) (hp : post (nI (ck_lB B s))) : ∀ d i, i + d = 4 → wY_load_4 post (nI s) wt dn ex ln ce cu (d + 1) (nI (ck_cnt (fun f => B f s) i)) (nI i) := by
  intro d
  induction d with
  | zero =>
    intro i hi
    obtain rfl : i = 4 := hi
    exact br_t ck_44 hp
  | succ d ih =>
    intro i hi
    have ih' := ih (i + 1) (by omega)
    refine br_f (ck_le4 (by omega)) ⟨ck_i5 (by omega) hs, ?_⟩
    rw [ck_c5 (f := i) (by omega) hs, hB i (by omega) s hs]
    cases hb : B i s
    · refine br_t rfl (fun z ez => ?_)
      subst ez
      have e := ck_cnt_f (g := fun f => B f s) (i := i) hb
      rw [e] at ih'
      rw [nI_1 i]
      exact ih'
    · refine br_f (by decide) (fun y ey z ez => ?_)
      subst ey ez
      have e := ck_cnt_t (g := fun f => B f s) (i := i) hb
      rw [e] at ih'
      rw [nI_1, nI_1 i]
      exact ih'
theorem ck_yld {post : Int32 → Prop} (s : Nat) (hs : s < 5) (wt : Int32) (dn ex ln ce cu : Nat → Int32) (B : Nat → Nat → Bool) (hB : ck_Cu cu B) (hp : post (nI (ck_lB B s))) : wpY_load post (wt, dn, ex, ln, ce, cu) (nI s) := ⟨5, ck_ldL post s hs wt dn ex ln ce cu B hB hp 4 0 rfl⟩
theorem ck_hoL (post : Int32 → Prop) (f : Nat) (hf : f < 4) (z0 : Int32) (wt : Int32) (dn ex ln ce cu : Nat → Int32) (up : Int32) (hd : ck_Dn dn up) (B : Nat → Nat → Bool) (hB : ck_Cu cu B) (g : Nat → Bool) (hg : ∀ s, s < 5 → g s = (B f s && (decide (z0 = 0) || bt up s))) (hp : post (nI (ck_cnt g 5))) : ∀ d i, i + d = 5 → wY_holders_5 post (nI f) z0 wt dn ex ln ce cu (d + 1) (nI (ck_cnt g i)) (nI i) := by
  intro d
  induction d with
  | zero =>
    intro i hi
    obtain rfl : i = 5 := hi
    exact br_t ck_55 hp
  | succ d ih =>
    intro i hi
    have hi5 : i < 5 := by omega
    have ih' := ih (i + 1) (by omega)
    have hgi := hg i hi5
    refine br_f (ck_le5 hi5) ⟨ck_i5 hf hi5, ?_⟩
    rw [ck_c5 hf hi5, hB f hf i hi5]
    cases hb : B f i
    · refine br_t rfl (fun z ez => ?_)
      subst ez
      rw [hb, Bool.false_and] at hgi
      rw [ck_cnt_f hgi] at ih'
      rw [nI_1 i]
      exact ih'
    · refine br_f (by decide) ?_
      rw [hb, Bool.true_and] at hgi
      by_cases hz : z0 = 0
      · refine br_t hz (fun y ey z ez => ?_)
        subst ey ez
        rw [decide_eq_true hz, Bool.true_or] at hgi
        rw [ck_cnt_t hgi] at ih'
        rw [nI_1, nI_1 i]
        exact ih'
      · refine br_f hz ⟨vp_in_nI hi5 (by omega), ?_⟩
        rw [decide_eq_false hz, Bool.false_or] at hgi
        rw [ck_cl (f := i) (by omega), hd i hi5]
        cases hu : bt up i
        · refine br_f (by decide) (fun z ez => ?_)
          subst ez
          rw [hu] at hgi
          rw [ck_cnt_f hgi] at ih'
          rw [nI_1 i]
          exact ih'
        · refine br_t (by decide) (fun y ey z ez => ?_)
          subst ey ez
          rw [hu] at hgi
          rw [ck_cnt_t hgi] at ih'
          rw [nI_1, nI_1 i]
          exact ih'
theorem ck_ho {post : Int32 → Prop} (f : Nat) (hf : f < 4) (z0 : Int32) (wt : Int32) (dn ex ln ce cu : Nat → Int32) (up : Int32) (hd : ck_Dn dn up) (B : Nat → Nat → Bool) (hB : ck_Cu cu B) (g : Nat → Bool) (hg : ∀ s, s < 5 → g s = (B f s && (decide (z0 = 0) || bt up s))) (hp : post (nI (ck_cnt g 5))) : wpY_holders post (wt, dn, ex, ln, ce, cu) (nI f) z0 := ⟨6, ck_hoL post f hf z0 wt dn ex ln ce cu up hd B hB g hg hp 5 0 rfl⟩
def ck_cd (up : Int32) (B : Nat → Nat → Bool) (f : Nat) : Nat → Bool := fun s => bt up s && !B f s
theorem ck_nsL (post : Int32 → Prop) (f : Nat) (hf : f < 4) (wt : Int32) (dn ex ln ce cu : Nat → Int32) (up : Int32) (hd : ck_Dn dn up) (B : Nat → Nat → Bool) (hB : ck_Cu cu B) (hp : post (ck_en (ck_pk (ck_lB B) (ck_cd up B f) 5))) : ∀ d i, i + d = 5 → wY_nextServer_4 post (nI f) wt dn ex ln ce cu (d + 1) (ck_en (ck_pk (ck_lB B) (ck_cd up B f) i)) (nI i) := by
  intro d
  induction d with
  | zero =>
    intro i hi
    obtain rfl : i = 5 := hi
    exact br_t ck_55 hp
  | succ d ih =>
    intro i hi
    have hi5 : i < 5 := by omega
    have ih' := ih (i + 1) (by omega)
    have hN : ck_cd up B f i = false → ∀ y : Int32, y = nI i + 1 → wY_nextServer_4 post (nI f) wt dn ex ln ce cu (d + 1) (ck_en (ck_pk (ck_lB B) (ck_cd up B f) i)) y := by
      intro hc y ey
      subst ey
      rw [ck_pk_f hc] at ih'
      rw [nI_1 i]
      exact ih'
    refine br_f (ck_le5 hi5) ⟨vp_in_nI hi5 (by omega), ?_⟩
    rw [ck_cl (f := i) (by omega), hd i hi5]
    cases hu : bt up i
    · have hc : ck_cd up B f i = false := by unfold ck_cd; rw [hu]; rfl
      exact br_f (by decide) (br_t rfl (hN hc))
    · refine br_t (by decide) ⟨ck_i5 hf hi5, ?_⟩
      rw [ck_c5 hf hi5, hB f hf i hi5]
      cases hb : B f i
      · have hc : ck_cd up B f i = true := by unfold ck_cd; rw [hu, hb]; rfl
        refine br_t rfl (br_f (by decide) ?_)
        cases hq : ck_pk (ck_lB B) (ck_cd up B f) i with
        | none =>
          rw [ck_pk_n hc hq] at ih'
          refine br_t (by decide) (fun y ey => ?_)
          subst ey
          rw [nI_1 i]
          exact ih'
        | some b =>
          have hb2 := ck_pk_in hq
          have l1 := ck_lB_le B b
          have l2 := ck_lB_le B i
          refine br_f (nI_pos (by omega)) (ck_yld i hi5 wt dn ex ln ce cu B hB (ck_yld b (by omega) wt dn ex ln ce cu B hB (pk_le (ck_lB B b) (ck_lB B i) (fun hl y ey => ?_) (fun hl y ey => ?_))))
          · rw [ck_pk_g hc hq hl] at ih'
            subst ey
            rw [nI_1 i]
            exact ih'
          · rw [ck_pk_l hc hq hl] at ih'
            subst ey
            rw [nI_1 i]
            exact ih'
      · have hc : ck_cd up B f i = false := by unfold ck_cd; rw [hu, hb]; rfl
        exact br_f (by decide) (br_t rfl (hN hc))
theorem ck_ns {post : Int32 → Prop} (f : Nat) (hf : f < 4) (wt : Int32) (dn ex ln ce cu : Nat → Int32) (up : Int32) (hd : ck_Dn dn up) (B : Nat → Nat → Bool) (hB : ck_Cu cu B) (hp : post (ck_en (ck_pk (ck_lB B) (ck_cd up B f) 5))) : wpY_nextServer post (wt, dn, ex, ln, ce, cu) (nI f) := ⟨6, ck_nsL post f hf wt dn ex ln ce cu up hd B hB hp 5 0 rfl⟩
/-! the bits of a file and the row of the reference -/
theorem ck_Cu_c {cu : Nat → Int32} {B B' : Nat → Nat → Bool} (h : ck_Cu cu B) (e : ∀ g, g < 4 → ∀ s, s < 5 → B' g s = B g s) : ck_Cu cu B' := fun g hg s hs => by rw [e g hg s hs]; exact h g hg s hs
theorem ck_Cu_u {cu : Nat → Int32} {B B' : Nat → Nat → Bool} {f t : Nat} {b : Bool} (h : ck_Cu cu B) (ht : t < 5) (e1 : B' f t = b) (e2 : ∀ g, g < 4 → ∀ s, s < 5 → ¬ (g = f ∧ s = t) → B' g s = B g s) : ck_Cu (upd cu (f * 5 + t) (ck_in b)) B' := by
  intro g hg s hs
  by_cases e : g = f ∧ s = t
  · obtain ⟨rfl, rfl⟩ := e
    rw [pk_us, e1]
  · rw [pk_un (by omega), e2 g hg s hs e]
    exact h g hg s hs
def ck_ov (f i : Nat) (b : Nat → Bool) (B : Nat → Nat → Bool) : Nat → Nat → Bool := fun g s => if g = f ∧ s < i then b s else B g s
theorem ck_ov_0 {cu : Nat → Int32} {B : Nat → Nat → Bool} (f : Nat) (b : Nat → Bool) (h : ck_Cu cu B) : ck_Cu cu (ck_ov f 0 b B) := ck_Cu_c h (fun g _ s _ => if_neg (by omega))
theorem ck_ov_s {cu : Nat → Int32} {B : Nat → Nat → Bool} {f i : Nat} {b : Nat → Bool} (hi : i < 5) (h : ck_Cu cu (ck_ov f i b B)) : ck_Cu (upd cu (f * 5 + i) (ck_in (b i))) (ck_ov f (i + 1) b B) := by
  refine ck_Cu_u h hi (if_pos ⟨rfl, by omega⟩) (fun g hg s hs n => ?_)
  unfold ck_ov
  by_cases z : g = f ∧ s < i
  · rw [if_pos z, if_pos ⟨z.1, by omega⟩]
  · rw [if_neg z, if_neg (by omega)]
theorem ck_ov_k {cu : Nat → Int32} {B : Nat → Nat → Bool} {f i : Nat} {b : Nat → Bool} (hb : b i = B f i) (h : ck_Cu cu (ck_ov f i b B)) : ck_Cu cu (ck_ov f (i + 1) b B) := by
  refine ck_Cu_c h (fun g hg s hs => ?_)
  unfold ck_ov
  by_cases z : g = f ∧ s < i
  · rw [if_pos z, if_pos ⟨z.1, by omega⟩]
  · by_cases z2 : g = f ∧ s = i
    · obtain ⟨rfl, rfl⟩ := z2
      rw [if_neg z, if_pos ⟨rfl, by omega⟩, hb]
    · rw [if_neg z, if_neg (by omega)]
theorem ck_ov_5 {cu cs : Nat → Int32} {f : Nat} {b : Nat → Bool} {x : Int32} (hb : ∀ s, s < 5 → bt x s = b s) (h : ck_Cu cu (ck_ov f 5 b (ck_B cs))) : ck_Cu cu (ck_B (upd cs f x)) := by
  refine ck_Cu_c h (fun g hg s hs => ?_)
  show bt (upd cs f x g) s = ck_ov f 5 b (ck_B cs) g s
  unfold ck_ov
  by_cases e : g = f
  · subst e
    rw [pk_us, if_pos ⟨rfl, hs⟩, hb s hs]
  · rw [pk_un e, if_neg (fun z => e z.1)]
theorem ck_hi_u {cs : Nat → Int32} {f : Nat} {x : Int32} (h : ∀ g, g < 4 → ck_Hi (cs g)) (hx : ck_Hi x) : ∀ g, g < 4 → ck_Hi (upd cs f x g) := by
  intro g hg
  by_cases e : g = f
  · subst e; rw [pk_us]; exact hx
  · rw [pk_un e]; exact h g hg
def ck_H (cs : Nat → Int32) (up : Int32) (f : Nat) : Nat := ck_cnt (fun s => bt (cs f) s && bt up s) 5
theorem ck_H_le (cs : Nat → Int32) (up : Int32) (f : Nat) : ck_H cs up f ≤ 5 := ck_cnt_le _ 5
theorem ck_av {cs : Nat → Int32} {up : Int32} {f : Nat} (hu : ck_Hi (cs f)) : (cs f &&& up) = 0 ↔ ck_H cs up f = 0 := by
  unfold ck_H
  rw [ck_cnt_0]
  constructor
  · intro h i _
    show (bt (cs f) i && bt up i) = false
    rw [← b_and, h, b_0]
  · intro h
    refine ck_ext (ck_hi_and hu) ck_hi_0 (fun i hi => ?_)
    rw [b_and, b_0]
    exact h i hi
