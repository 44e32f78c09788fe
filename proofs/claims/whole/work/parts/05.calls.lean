/-! numbers in range, refusals -/
theorem ck_xf_b {post : Int32 → Prop} {x : Int32} (h : x < 0 ∨ 4 ≤ x) (hp : post 0) : wpX_isFileNumber post x := br_c (fun _ => hp) (fun n => br_t (h.resolve_left n) hp)
theorem ck_xf {post : Int32 → Prop} {f : Nat} (h : f < 4) (hp : post 1) : wpX_isFileNumber post (nI f) := br_f (nI_pos (by omega)) (br_f (ck_le4 h) hp)
theorem ck_xv_b {post : Int32 → Prop} {x : Int32} (h : x < 0 ∨ 5 ≤ x) (hp : post 0) : wpX_isServerNumber post x := br_c (fun _ => hp) (fun n => br_t (h.resolve_left n) hp)
theorem ck_xv {post : Int32 → Prop} {f : Nat} (h : f < 5) (hp : post 1) : wpX_isServerNumber post (nI f) := br_f (nI_pos (by omega)) (br_f (ck_le5 h) hp)
theorem ck_xc_b {post : Int32 → Prop} {x : Int32} (h : x < 0 ∨ 6 ≤ x) (hp : post 0) : wpX_isCellNumber post x := br_c (fun _ => hp) (fun n => br_t (h.resolve_left n) hp)
theorem ck_xc {post : Int32 → Prop} {f : Nat} (h : f < 6) (hp : post 1) : wpX_isCellNumber post (nI f) := br_f (nI_pos (by omega)) (br_f (ck_le6 h) hp)
theorem ck_yf_b {post : Int32 → Prop} {x : Int32} (wt : Int32) (dn ex ln ce cu : Nat → Int32) (h : x < 0 ∨ 4 ≤ x) (hp : post 0) : wpY_isFile post (wt, dn, ex, ln, ce, cu) x := br_c (fun _ => hp) (fun n => br_t (h.resolve_left n) hp)
theorem ck_yf {post : Int32 → Prop} {f : Nat} (wt : Int32) (dn ex ln ce cu : Nat → Int32) (h : f < 4) (hp : post 1) : wpY_isFile post (wt, dn, ex, ln, ce, cu) (nI f) := br_f (nI_pos (by omega)) (br_f (ck_le4 h) hp)
theorem ck_yv_b {post : Int32 → Prop} {x : Int32} (wt : Int32) (dn ex ln ce cu : Nat → Int32) (h : x < 0 ∨ 5 ≤ x) (hp : post 0) : wpY_isServer post (wt, dn, ex, ln, ce, cu) x := br_c (fun _ => hp) (fun n => br_t (h.resolve_left n) hp)
theorem ck_yv {post : Int32 → Prop} {f : Nat} (wt : Int32) (dn ex ln ce cu : Nat → Int32) (h : f < 5) (hp : post 1) : wpY_isServer post (wt, dn, ex, ln, ce, cu) (nI f) := br_f (nI_pos (by omega)) (br_f (ck_le5 h) hp)
theorem ck_xe_b {post : Int32 → Prop} {x : Int32} (cp up : Int32) (ex ln cs ce : Nat → Int32) (h : x < 0 ∨ 4 ≤ x) (hp : post (-1)) : wpX_refusalUnlessExists post (cp, up, ex, ln, cs, ce) x := by
  unfold wpX_refusalUnlessExists
  dsimp only
  exact ck_xf_b h (br_t rfl hp)
theorem ck_xe_n {post : Int32 → Prop} {f : Nat} (cp up : Int32) (ex ln cs ce : Nat → Int32) (hf : f < 4) (he : ex f = 0) (hp : post (-3)) : wpX_refusalUnlessExists post (cp, up, ex, ln, cs, ce) (nI f) := by
  unfold wpX_refusalUnlessExists
  dsimp only
  refine ck_xf hf (br_f (by decide) ⟨vp_in_nI hf (by omega), ?_⟩)
  rw [ck_cl (f := f) (by omega)]
  exact br_t he hp
theorem ck_xe {post : Int32 → Prop} {f : Nat} (cp up : Int32) (ex ln cs ce : Nat → Int32) (hf : f < 4) (he : ¬ ex f = 0) (hp : post 0) : wpX_refusalUnlessExists post (cp, up, ex, ln, cs, ce) (nI f) := by
  unfold wpX_refusalUnlessExists
  dsimp only
  refine ck_xf hf (br_f (by decide) ⟨vp_in_nI hf (by omega), ?_⟩)
  rw [ck_cl (f := f) (by omega)]
  exact br_f he hp
theorem ck_xi {post : Int32 → Prop} {f : Nat} (cp up : Int32) (ex ln cs ce : Nat → Int32) (hf : f < 4) (h0 : (cs f &&& up) = 0 → post 0) (h1 : ¬ (cs f &&& up) = 0 → post 1) : wpX_isAvailable post (cp, up, ex, ln, cs, ce) (nI f) := by
  refine ⟨vp_in_nI hf (by omega), ?_⟩
  rw [ck_cl (f := f) (by omega)]
  exact br_c h0 h1
theorem ck_xa_b {post : Int32 → Prop} {x : Int32} (cp up : Int32) (ex ln cs ce : Nat → Int32) (h : x < 0 ∨ 4 ≤ x) (hp : post (-1)) : wpX_refusalUnlessAvailable post (cp, up, ex, ln, cs, ce) x := by
  unfold wpX_refusalUnlessAvailable
  dsimp only
  exact ck_xe_b cp up ex ln cs ce h (br_f (by decide) hp)
theorem ck_xa_n {post : Int32 → Prop} {f : Nat} (cp up : Int32) (ex ln cs ce : Nat → Int32) (hf : f < 4) (he : ex f = 0) (hp : post (-3)) : wpX_refusalUnlessAvailable post (cp, up, ex, ln, cs, ce) (nI f) := by
  unfold wpX_refusalUnlessAvailable
  dsimp only
  exact ck_xe_n cp up ex ln cs ce hf he (br_f (by decide) hp)
theorem ck_xa_u {post : Int32 → Prop} {f : Nat} (cp up : Int32) (ex ln cs ce : Nat → Int32) (hf : f < 4) (he : ¬ ex f = 0) (ha : (cs f &&& up) = 0) (hp : post (-5)) : wpX_refusalUnlessAvailable post (cp, up, ex, ln, cs, ce) (nI f) := by
  unfold wpX_refusalUnlessAvailable
  dsimp only
  exact ck_xe cp up ex ln cs ce hf he (br_t rfl (ck_xi cp up ex ln cs ce hf (fun _ => br_t rfl hp) (fun z => absurd ha z)))
theorem ck_xa {post : Int32 → Prop} {f : Nat} (cp up : Int32) (ex ln cs ce : Nat → Int32) (hf : f < 4) (he : ¬ ex f = 0) (ha : ¬ (cs f &&& up) = 0) (hp : post 0) : wpX_refusalUnlessAvailable post (cp, up, ex, ln, cs, ce) (nI f) := by
  unfold wpX_refusalUnlessAvailable
  dsimp only
  exact ck_xe cp up ex ln cs ce hf he (br_t rfl (ck_xi cp up ex ln cs ce hf (fun z => absurd z ha) (fun _ => br_f (by decide) hp)))
theorem ck_yr_b {post : Int32 → Prop} {x : Int32} (wt : Int32) (dn ex ln ce cu : Nat → Int32) (h : x < 0 ∨ 4 ≤ x) (hp : post (-1)) : wpY_refusal post (wt, dn, ex, ln, ce, cu) x := by
  unfold wpY_refusal
  dsimp only
  exact ck_yf_b wt dn ex ln ce cu h (br_t rfl hp)
theorem ck_yr_n {post : Int32 → Prop} {f : Nat} (wt : Int32) (dn ex ln ce cu : Nat → Int32) (hf : f < 4) (he : ex f = 0) (hp : post (-3)) : wpY_refusal post (wt, dn, ex, ln, ce, cu) (nI f) := by
  unfold wpY_refusal
  dsimp only
  refine ck_yf wt dn ex ln ce cu hf (br_f (by decide) ⟨vp_in_nI hf (by omega), ?_⟩)
  rw [ck_cl (f := f) (by omega)]
  exact br_t he hp
theorem ck_yr_h {post : Int32 → Prop} {f : Nat} (wt : Int32) (dn ex ln ce cu : Nat → Int32) (hf : f < 4) (he : ¬ ex f = 0) (up : Int32) (hd : ck_Dn dn up) (cs : Nat → Int32) (hB : ck_Cu cu (ck_B cs)) (hh : ck_Hi (cs f)) (h0 : (cs f &&& up) = 0 → post (-5)) (h1 : ¬ (cs f &&& up) = 0 → post 0) : wpY_refusal post (wt, dn, ex, ln, ce, cu) (nI f) := by
  unfold wpY_refusal
  dsimp only
  refine ck_yf wt dn ex ln ce cu hf (br_f (by decide) ⟨vp_in_nI hf (by omega), ?_⟩)
  rw [ck_cl (f := f) (by omega)]
  refine br_f he (ck_ho f hf 1 wt dn ex ln ce cu up hd (ck_B cs) hB (fun s => bt (cs f) s && bt up s) (fun s _ => rfl) ?_)
  have hl := ck_H_le cs up f
  exact pk_eq (ck_H cs up f) 0 (fun z => h0 ((ck_av hh).mpr z)) (fun z => h1 (fun y => z ((ck_av hh).mp y))) (hx := rfl) (hy := rfl)
/-- the two refusals meet -/
theorem ck_ref (cp up : Int32) (ex ln cs ce dn cu : Nat → Int32) (wt : Int32) (hd : ck_Dn dn up) (hB : ck_Cu cu (ck_B cs)) (hh : ∀ g, g < 4 → ck_Hi (cs g)) (x : Int32) :
    (∃ r : Int32, ¬ r = 0 ∧ ¬ 0 ≤ r ∧ (∀ post : Int32 → Prop, post r → wpX_refusalUnlessAvailable post (cp, up, ex, ln, cs, ce) x) ∧ (∀ post : Int32 → Prop, post r → wpY_refusal post (wt, dn, ex, ln, ce, cu) x)) ∨
    ∃ f : Nat, f < 4 ∧ x = nI f ∧ ¬ ex f = 0 ∧ ¬ (cs f &&& up) = 0 := by
  rcases ck_fn x with h | ⟨f, hf, rfl⟩
  · exact Or.inl ⟨-1, by decide, by decide, fun _ hp => ck_xa_b cp up ex ln cs ce h hp, fun _ hp => ck_yr_b wt dn ex ln ce cu h hp⟩
  · by_cases he : ex f = 0
    · exact Or.inl ⟨-3, by decide, by decide, fun _ hp => ck_xa_n cp up ex ln cs ce hf he hp, fun _ hp => ck_yr_n wt dn ex ln ce cu hf he hp⟩
    · by_cases ha : (cs f &&& up) = 0
      · exact Or.inl ⟨-5, by decide, by decide, fun _ hp => ck_xa_u cp up ex ln cs ce hf he ha hp, fun _ hp => ck_yr_h wt dn ex ln ce cu hf he up hd cs hB (hh f hf) (fun _ => hp) (fun z => absurd ha z)⟩
      · exact Or.inr ⟨f, hf, rfl, he, ha⟩
theorem ck_yr {post : Int32 → Prop} {f : Nat} (wt : Int32) (dn ex ln ce cu : Nat → Int32) (hf : f < 4) (he : ¬ ex f = 0) (up : Int32) (hd : ck_Dn dn up) (cs : Nat → Int32) (hB : ck_Cu cu (ck_B cs)) (hh : ck_Hi (cs f)) (ha : ¬ (cs f &&& up) = 0) (hp : post 0) : wpY_refusal post (wt, dn, ex, ln, ce, cu) (nI f) := ck_yr_h wt dn ex ln ce cu hf he up hd cs hB hh (fun z => absurd z ha) (fun _ => hp)
/-! store and write -/
def ck_ln (ln : Nat → Int32) (f l c : Nat) : Nat → Int32 := if l ≤ c then upd ln f (nI (c + 1)) else ln
theorem ck_xs {post : SX → Prop} {f c l : Nat} (v cp up : Int32) (ex ln cs ce : Nat → Int32) (hf : f < 4) (hc : c < 6) (hl : ln f = nI l) (hl6 : l ≤ 6) (hp : post (cp, up, ex, ck_ln ln f l c, upd cs f (cs f &&& up), upd ce (f * 6 + c) v)) : wpX_store post (cp, up, ex, ln, cs, ce) (nI f) (nI c) v := by
  refine ⟨vp_in_nI hf (by omega), vp_in_nI hf (by omega), fun a ea => ⟨ck_i6 hf hc, fun b eb => ⟨vp_in_nI hf (by omega), ?_⟩⟩⟩
  subst ea eb
  rw [ck_c6 hf hc, ck_cl (f := f) (by omega), hl]
  unfold ck_ln at hp
  refine pk_lt c l (fun h => ?_) (fun h => ⟨vp_in_nI hf (by omega), fun d ed => ?_⟩)
  · rw [if_neg (by omega)] at hp
    exact hp
  · subst ed
    rw [if_pos h] at hp
    rw [nI_1 c]
    exact hp
theorem ck_ywL (post : Int32 → SY → Prop) (f : Nat) (hf : f < 4) (wt : Int32) (dn ex ln ce : Nat → Int32) (up : Int32) (hd : ck_Dn dn up) (cs : Nat → Int32) (K : ∀ cu' : Nat → Int32, ck_Cu cu' (ck_B (upd cs f (cs f &&& up))) → post (nI (ck_cnt (bt (cs f &&& up)) 5)) (wt, dn, ex, ln, ce, cu')) : ∀ d i, i + d = 5 → ∀ cu : Nat → Int32, ck_Cu cu (ck_ov f i (fun s => bt (cs f) s && bt up s) (ck_B cs)) → wY_write_63 post (nI f) wt (d + 1) (nI i) dn ex ln ce cu := by
  intro d
  induction d with
  | zero =>
    intro i hi cu hcu
    obtain rfl : i = 5 := hi
    have hB := ck_ov_5 (x := cs f &&& up) (fun s _ => b_and (cs f) up s) hcu
    refine br_t ck_55 (ck_ho f hf 0 wt dn ex ln ce cu up hd _ hB (bt (cs f &&& up)) (fun s _ => ?_) (K cu hB))
    show _ = (bt (upd cs f (cs f &&& up) f) s && _)
    rw [pk_us]
    simp
  | succ d ih =>
    intro i hi cu hcu
    have hi5 : i < 5 := by omega
    refine br_f (ck_le5 hi5) ⟨vp_in_nI hi5 (by omega), ?_⟩
    rw [ck_cl (f := i) (by omega), hd i hi5]
    cases hu : bt up i
    · refine br_f (by decide) ⟨ck_i5 hf hi5, fun a ea y ey => ?_⟩
      subst ea ey
      rw [ck_c5 hf hi5, ck_nar0, nI_1 i]
      have t := ck_ov_s hi5 hcu
      rw [hu, Bool.and_false] at t
      exact ih (i + 1) (by omega) _ t
    · refine br_t (by decide) (fun y ey => ?_)
      subst ey
      rw [nI_1 i]
      refine ih (i + 1) (by omega) _ (ck_ov_k ?_ hcu)
      rw [hu, Bool.and_true]
theorem ck_yw {post : Int32 → SY → Prop} {f c l : Nat} (v wt : Int32) (dn ex ln ce cu : Nat → Int32) (hf : f < 4) (hc : c < 6) (hl : ln f = nI l) (hl6 : l ≤ 6) (up : Int32) (hd : ck_Dn dn up) (cs : Nat → Int32) (hB : ck_Cu cu (ck_B cs)) (hh : ck_Hi (cs f)) (he : ¬ ex f = 0) (ha : ¬ (cs f &&& up) = 0) (K : ∀ cu' : Nat → Int32, ck_Cu cu' (ck_B (upd cs f (cs f &&& up))) → post (nI (ck_cnt (bt (cs f &&& up)) 5)) (wt, dn, ex, ck_ln ln f l c, upd ce (f * 6 + c) v, cu')) : wpY_write post (wt, dn, ex, ln, ce, cu) (nI f) (nI c) v := by
  unfold wpY_write
  dsimp only
  refine ck_yr wt dn ex ln ce cu hf he up hd cs hB hh ha (br_t (by decide) (br_f (nI_pos (by omega)) (br_t (nI_le (b := 5) (by omega) (by decide)) ⟨ck_i6 hf hc, fun a ea => ⟨vp_in_nI hf (by omega), ?_⟩⟩)))
  subst ea
  rw [ck_c6 hf hc, ck_cl (f := f) (by omega), hl, nI_1 c]
  unfold ck_ln at K
  refine pk_le (c + 1) l (fun h => ?_) (fun h => ⟨vp_in_nI hf (by omega), fun d ed => ?_⟩)
  · rw [if_neg (by omega)] at K
    exact ⟨6, ck_ywL post f hf wt dn ex ln _ up hd cs K 5 0 rfl cu (ck_ov_0 f _ hB)⟩
  · subst ed
    rw [if_pos (by omega)] at K
    exact ⟨6, ck_ywL post f hf wt dn ex _ _ up hd cs K 5 0 rfl cu (ck_ov_0 f _ hB)⟩
