/-- the two states hold the same store: flags, lengths and cells are the same arrays; masks against rows of flags -/
def i_Rel (_ : Nat) (u : SX) (v : SY) : Prop := ∃ (c : Nat) (up : Int32) (ex ln cs ce dn cu : Nat → Int32), u = (nI c, up, ex, ln, cs, ce) ∧ v = (nI c, dn, ex, ln, ce, cu) ∧ 1 ≤ c ∧ c ≤ 3 ∧ ck_Dn dn up ∧ ck_Hi up ∧ ck_Cu cu (ck_B cs) ∧ (∀ g, g < 4 → ck_Hi (cs g)) ∧ (∀ g, g < 4 → ex g = 0 → cs g = 0) ∧ (∀ g, g < 4 → ∃ l, l ≤ 6 ∧ ln g = nI l)
theorem i_up {k : Nat} {u : SX} {v : SY} (h : i_Rel k u v) : i_Rel (k + 4) u v := h
theorem ck_rel0 (c : Nat) (h1 : 1 ≤ c) (h3 : c ≤ 3) : i_Rel 1 (nI c, 31, (fun _ => 0), (fun _ => 0), (fun _ => 0), (fun _ => 0)) (nI c, (fun _ => 0), (fun _ => 0), (fun _ => 0), (fun _ => 0), (fun _ => 0)) := by
  refine ⟨c, 31, _, _, _, _, _, _, rfl, rfl, h1, h3, fun s hs => ?_, fun i hi => ?_, fun g _ s _ => ?_, fun g _ => ck_hi_0, fun _ _ _ => rfl, fun _ _ => ⟨0, by omega, rfl⟩⟩
  · rw [ck_31 s (by omega), decide_eq_true hs]; rfl
  · rcases Nat.lt_or_ge i 32 with h | h
    · rw [ck_31 i h, decide_eq_false (by omega)]
    · exact b_big h
  · show (0 : Int32) = ck_in (bt 0 s)
    rw [b_0]; rfl
theorem i_vc0 (k0 : Int32) : wpX_init (fun u => wpY_init (fun v => i_Rel 1 u v) k0) k0 := by
  unfold wpX_init wpY_init
  refine br_c (fun h1 => br_c (fun h3 => br_t h1 (br_t h3 ?_)) (fun h3 => br_t h1 (br_f h3 (ck_rel0 3 (by omega) (by omega))))) (fun h1 => br_f h1 (ck_rel0 1 (by omega) (by omega)))
  rcases pk_ix k0 (n := 4) (by decide) with h | h | ⟨j, hj, rfl⟩
  · exact absurd h (Int32.not_lt.mpr (Int32.le_trans (by decide) h1))
  · exact absurd (Int32.le_trans h h3) (by decide +kernel)
  · have h : 1 ≤ j := (nI_leI (a := 1) (by omega) (by omega)).mp h1
    exact ck_rel0 j h (by omega)
theorem i_vc_create {k : Nat} {u : SX} {v : SY} (I : i_Rel k u v) (hk : k + 4 ≤ 2049) (v1 : Int32) : wpX_create (fun r u' => wpY_create (fun r' v' => r' = r ∧ i_Rel (k + 4) u' v') v v1) u v1 := by
  obtain ⟨c, up, ex, ln, cs, ce, dn, cu, rfl, rfl, h1, h3, hd, hu, hB, hh, he, hl⟩ := I
  have J : i_Rel (k + 4) (nI c, up, ex, ln, cs, ce) (nI c, dn, ex, ln, ce, cu) := ⟨c, up, ex, ln, cs, ce, dn, cu, rfl, rfl, h1, h3, hd, hu, hB, hh, he, hl⟩
  unfold wpX_create wpY_create
  dsimp only
  rcases ck_fn v1 with h | ⟨f, hf, rfl⟩
  · exact ck_xf_b h (br_t rfl (ck_yf_b _ _ _ _ _ _ h (br_t rfl ⟨rfl, J⟩)))
  have ef : (nI f).toNatClampNeg = f := ck_cl (by omega)
  have vf : vp_in (nI f) 4 := vp_in_nI hf (by omega)
  simp only [ef, ck_nar1]
  refine ck_xf hf (br_f (by decide) ⟨vf, ?_⟩)
  by_cases hx : ex f = 0
  · have hcs := he f hf hx
    have hz : ∀ s, s < 5 → cu (f * 5 + s) = 0 := by
      intro s hs
      rw [hB f hf s hs]
      refine ck_in_f ?_
      show bt (cs f) s = false
      rw [hcs, b_0]
    refine br_t hx (br_c (fun h0 => ?_) (fun h0 => ⟨vf, fun a ea => ⟨vf, fun b eb => ?_⟩⟩))
    · have hn : ck_pk (ck_lB (ck_B cs)) (ck_cd up (ck_B cs) f) 5 = none := ck_pk_0.mpr (fun i _ => by unfold ck_cd; rw [h0, b_0]; rfl)
      refine ck_yf _ _ _ _ _ _ hf (br_f (by decide) ⟨vf, br_t hx ⟨6, ck_ycL _ f hf _ _ _ _ _ _ hz ?_ 5 0 rfl⟩⟩)
      refine br_t ck_55 (ck_ns f hf _ dn ex ln ce cu up hd (ck_B cs) hB ?_)
      rw [hn]
      exact br_f (by decide) ⟨rfl, J⟩
    · subst ea eb
      obtain ⟨r, cs', cu', g1, g2, g3, g4, g5⟩ := ck_fl c h3 up (upd ex f 1) (upd ln f 0) (ck_zr ce f 6) dn hd f hf cs cu hB hh
      have hn : ∃ b, ck_pk (ck_lB (ck_B cs)) (ck_cd up (ck_B cs) f) 5 = some b := by
        cases hq : ck_pk (ck_lB (ck_B cs)) (ck_cd up (ck_B cs) f) 5 with
        | none =>
          refine absurd (ck_ext hu ck_hi_0 (fun i hi => ?_)) h0
          have t := ck_pk_0.mp hq i hi
          unfold ck_cd at t
          rw [show ck_B cs f i = false by show bt (cs f) i = false; rw [hcs, b_0]] at t
          rw [b_0]
          simpa using t
        | some b => exact ⟨b, rfl⟩
      obtain ⟨b, hn⟩ := hn
      have hb := ck_pk_in hn
      refine ⟨7, ck_xzL _ f hf _ _ _ _ _ ce (br_t ck_66 (g4 _ ?_)) 6 0 rfl⟩
      dsimp only
      refine ck_yf _ _ _ _ _ _ hf (br_f (by decide) ⟨vf, br_t hx ⟨6, ck_ycL _ f hf _ _ _ _ _ _ hz ?_ 5 0 rfl⟩⟩)
      refine br_t ck_55 (ck_ns f hf _ dn ex ln ce cu up hd (ck_B cs) hB ?_)
      rw [hn]
      refine br_t (nI_pos' (by omega)) ⟨vf, fun a ea => ⟨vf, fun d ed => ?_⟩⟩
      rw [ef, ck_nar1] at ea
      rw [ef] at ed
      subst ea ed
      refine ⟨7, ck_yzL _ f hf _ _ _ _ ce _ (br_t ck_66 (g5 _ ?_)) 6 0 rfl⟩
      refine ⟨rfl, c, up, _, _, cs', _, dn, cu', rfl, rfl, h1, h3, hd, hu, g1, g2, fun g hg => ?_, ck_hl_u hl (l := 0) (by omega) rfl⟩
      by_cases e : g = f
      · subst e; rw [pk_us]; exact fun z => absurd z (by decide)
      · rw [pk_un e, g3 g e]; exact he g hg
  · exact br_f hx (ck_yf _ _ _ _ _ _ hf (br_f (by decide) ⟨vf, br_f hx ⟨by trivial, J⟩⟩))
theorem i_vc_remove {k : Nat} {u : SX} {v : SY} (I : i_Rel k u v) (hk : k + 4 ≤ 2049) (v1 : Int32) : wpX_remove (fun r u' => wpY_remove (fun r' v' => r' = r ∧ i_Rel (k + 4) u' v') v v1) u v1 := by
  obtain ⟨c, up, ex, ln, cs, ce, dn, cu, rfl, rfl, h1, h3, hd, hu, hB, hh, he, hl⟩ := I
  have J : i_Rel (k + 4) (nI c, up, ex, ln, cs, ce) (nI c, dn, ex, ln, ce, cu) := ⟨c, up, ex, ln, cs, ce, dn, cu, rfl, rfl, h1, h3, hd, hu, hB, hh, he, hl⟩
  unfold wpX_remove wpY_remove
  dsimp only
  rcases ck_fn v1 with h | ⟨f, hf, rfl⟩
  · exact ck_xe_b _ _ _ _ _ _ h (br_f (by decide) (ck_yf_b _ _ _ _ _ _ h (br_t rfl ⟨rfl, J⟩)))
  have ef : (nI f).toNatClampNeg = f := ck_cl (by omega)
  have vf : vp_in (nI f) 4 := vp_in_nI hf (by omega)
  simp only [ef, ck_nar0]
  by_cases hx : ex f = 0
  · exact ck_xe_n _ _ _ _ _ _ hf hx (br_f (by decide) (ck_yf _ _ _ _ _ _ hf (br_f (by decide) ⟨vf, br_t hx ⟨rfl, J⟩⟩)))
  · refine ck_xe _ _ _ _ _ _ hf hx (br_t rfl ⟨vf, fun a ea => ⟨vf, fun b eb => ?_⟩⟩)
    subst ea eb
    refine ck_yf _ _ _ _ _ _ hf (br_f (by decide) ⟨vf, br_f hx ⟨vf, fun a ea => ?_⟩⟩)
    subst ea
    refine ⟨6, ck_yrL _ f hf _ dn _ ln ce cs (fun cu' hcu => ?_) 5 0 rfl cu (ck_ov_0 f _ hB)⟩
    exact ⟨rfl, c, up, _, ln, _, ce, dn, cu', rfl, rfl, h1, h3, hd, hu, hcu, ck_hi_u hh ck_hi_0, ck_he_u he (fun _ => rfl), hl⟩
theorem i_vc_write {k : Nat} {u : SX} {v : SY} (I : i_Rel k u v) (hk : k + 4 ≤ 2049) (v1 : Int32) (v2 : Int32) (v3 : Int32) : wpX_write (fun r u' => wpY_write (fun r' v' => r' = r ∧ i_Rel (k + 4) u' v') v v1 v2 v3) u v1 v2 v3 := by
  obtain ⟨c, up, ex, ln, cs, ce, dn, cu, rfl, rfl, h1, h3, hd, hu, hB, hh, he, hl⟩ := I
  have J : i_Rel (k + 4) (nI c, up, ex, ln, cs, ce) (nI c, dn, ex, ln, ce, cu) := ⟨c, up, ex, ln, cs, ce, dn, cu, rfl, rfl, h1, h3, hd, hu, hB, hh, he, hl⟩
  unfold wpX_write
  dsimp only
  rcases ck_ref (nI c) up ex ln cs ce dn cu (nI c) hd hB hh v1 with ⟨r, r0, r1, gX, gY⟩ | ⟨f, hf, rfl, hx, ha⟩
  · refine gX _ (br_f r0 ?_)
    unfold wpY_write
    dsimp only
    exact gY _ (br_f r1 ⟨rfl, J⟩)
  have ef : (nI f).toNatClampNeg = f := ck_cl (by omega)
  have vf : vp_in (nI f) 4 := vp_in_nI hf (by omega)
  rcases ck_cn v2 with h | ⟨q, hq, rfl⟩
  · refine ck_xa _ _ _ _ _ _ hf hx ha (br_t rfl (ck_xc_b h (br_t rfl ?_)))
    unfold wpY_write
    dsimp only
    exact ck_yr _ _ _ _ _ _ hf hx up hd cs hB (hh f hf) ha (br_t (by decide) (br_c (fun _ => ⟨rfl, J⟩) (fun n => br_f (ck_n5 (h.resolve_left n)) ⟨rfl, J⟩)))
  · obtain ⟨l, hl6, hll⟩ := hl f hf
    refine ck_xa _ _ _ _ _ _ hf hx ha (br_t rfl (ck_xc hq (br_f (by decide) (ck_xs v3 _ _ _ _ _ _ hf hq hll hl6 ?_))))
    dsimp only
    refine ⟨vf, ?_⟩
    rw [ef, pk_us]
    refine ck_cs _ ?_
    exact ck_yw v3 _ dn ex ln ce cu hf hq hll hl6 up hd cs hB (hh f hf) hx ha (fun cu' hcu => ⟨rfl, c, up, ex, _, _, _, dn, cu', rfl, rfl, h1, h3, hd, hu, hcu, ck_hi_u hh (ck_hi_and (hh f hf)), ck_he_c he hx, ck_hl_n hl hq⟩)
theorem i_vc_append {k : Nat} {u : SX} {v : SY} (I : i_Rel k u v) (hk : k + 4 ≤ 2049) (v1 : Int32) (v2 : Int32) : wpX_append (fun r u' => wpY_append (fun r' v' => r' = r ∧ i_Rel (k + 4) u' v') v v1 v2) u v1 v2 := by
  obtain ⟨c, up, ex, ln, cs, ce, dn, cu, rfl, rfl, h1, h3, hd, hu, hB, hh, he, hl⟩ := I
  have J : i_Rel (k + 4) (nI c, up, ex, ln, cs, ce) (nI c, dn, ex, ln, ce, cu) := ⟨c, up, ex, ln, cs, ce, dn, cu, rfl, rfl, h1, h3, hd, hu, hB, hh, he, hl⟩
  unfold wpX_append wpY_append
  dsimp only
  rcases ck_ref (nI c) up ex ln cs ce dn cu (nI c) hd hB hh v1 with ⟨r, r0, r1, gX, gY⟩ | ⟨f, hf, rfl, hx, ha⟩
  · exact gX _ (br_f r0 (gY _ (br_f r1 ⟨rfl, J⟩)))
  have ef : (nI f).toNatClampNeg = f := ck_cl (by omega)
  have vf : vp_in (nI f) 4 := vp_in_nI hf (by omega)
  obtain ⟨l, hl6, hll⟩ := hl f hf
  simp only [ef, hll]
  refine ck_xa _ _ _ _ _ _ hf hx ha (br_t rfl ⟨vf, fun a ea => ?_⟩)
  subst ea
  by_cases h6 : l = 6
  · subst h6
    refine ck_xc_b (Or.inr ck_66) (br_t rfl (ck_yr _ _ _ _ _ _ hf hx up hd cs hB (hh f hf) ha (br_t (by decide) ⟨vf, fun b eb => ?_⟩)))
    subst eb
    exact br_t rfl ⟨by trivial, J⟩
  · refine ck_xc (by omega) (br_f (by decide) (ck_xs v2 _ _ _ _ _ _ hf (by omega) hll hl6 ?_))
    dsimp only
    refine ck_yr _ _ _ _ _ _ hf hx up hd cs hB (hh f hf) ha (br_t (by decide) ⟨vf, fun b eb => ?_⟩)
    subst eb
    exact br_f (fun z => h6 ((nI_eq (b := 6) (by omega) (by omega)).mp z)) (ck_yw v2 _ dn ex ln ce cu hf (by omega) hll hl6 up hd cs hB (hh f hf) hx ha (fun cu' hcu => ⟨rfl, c, up, ex, _, _, _, dn, cu', rfl, rfl, h1, h3, hd, hu, hcu, ck_hi_u hh (ck_hi_and (hh f hf)), ck_he_c he hx, ck_hl_n hl (by omega)⟩))
