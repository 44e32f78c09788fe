theorem i_vc_snapshot {k : Nat} {u : SX} {v : SY} (I : i_Rel k u v) (hk : k + 4 ≤ 2049) (v1 : Int32) (v2 : Int32) : wpX_snapshot (fun r u' => wpY_snapshot (fun r' v' => r' = r ∧ i_Rel (k + 4) u' v') v v1 v2) u v1 v2 := by
  obtain ⟨c, up, ex, ln, cs, ce, dn, cu, rfl, rfl, h1, h3, hd, hu, hB, hh, he, hl⟩ := I
  have J : i_Rel (k + 4) (nI c, up, ex, ln, cs, ce) (nI c, dn, ex, ln, ce, cu) := ⟨c, up, ex, ln, cs, ce, dn, cu, rfl, rfl, h1, h3, hd, hu, hB, hh, he, hl⟩
  unfold wpX_snapshot wpY_snapshot
  dsimp only
  rcases ck_fn v1 with h | ⟨f, hf, rfl⟩
  · exact ck_xf_b h (br_t rfl (ck_yf_b _ _ _ _ _ _ h (br_t rfl ⟨rfl, J⟩)))
  rcases ck_fn v2 with h | ⟨t, ht, rfl⟩
  · exact ck_xf hf (br_f (by decide) (ck_xf_b h (br_t rfl (ck_yf _ _ _ _ _ _ hf (br_f (by decide) (ck_yf_b _ _ _ _ _ _ h (br_t rfl ⟨rfl, J⟩)))))))
  have ef : (nI f).toNatClampNeg = f := ck_cl (by omega)
  have vf : vp_in (nI f) 4 := vp_in_nI hf (by omega)
  have et : (nI t).toNatClampNeg = t := ck_cl (by omega)
  have vt : vp_in (nI t) 4 := vp_in_nI ht (by omega)
  simp only [ef, et, ck_nar1]
  refine ck_xf hf (br_f (by decide) (ck_xf ht (br_f (by decide) ⟨vf, ?_⟩)))
  by_cases hx : ex f = 0
  · exact br_t hx (ck_yf _ _ _ _ _ _ hf (br_f (by decide) (ck_yf _ _ _ _ _ _ ht (br_f (by decide) ⟨vf, br_t hx ⟨by trivial, J⟩⟩))))
  refine br_f hx ⟨vt, ?_⟩
  by_cases hy : ex t = 0
  · have hft : ¬ f = t := fun z => hx (by rw [z]; exact hy)
    refine br_t hy (ck_xi _ _ _ _ _ _ hf (fun ha => br_t rfl ?_) (fun ha => br_f (by decide) ⟨vt, fun a ea => ⟨vf, vt, fun b eb => ⟨vf, vt, fun d ed => ?_⟩⟩⟩))
    · exact ck_yf _ _ _ _ _ _ hf (br_f (by decide) (ck_yf _ _ _ _ _ _ ht (br_f (by decide) ⟨vf, br_f hx ⟨vt, br_t hy (ck_yr_h _ _ _ _ _ _ hf hx up hd cs hB (hh f hf) (fun _ => br_f (by decide) ⟨by trivial, J⟩) (fun z => absurd ha z))⟩⟩)))
    · subst ea eb ed
      refine ⟨7, ck_xsL _ f t hf ht _ _ _ _ _ ce (br_t ck_66 ⟨vt, ?_⟩) 6 0 rfl⟩
      rw [et, pk_us]
      refine ck_cs _ ?_
      refine ck_yf _ _ _ _ _ _ hf (br_f (by decide) (ck_yf _ _ _ _ _ _ ht (br_f (by decide) ⟨vf, br_f hx ⟨vt, br_t hy (ck_yr _ _ _ _ _ _ hf hx up hd cs hB (hh f hf) ha (br_t (by decide) ⟨vt, fun a ea => ⟨vf, vt, fun b eb => ?_⟩⟩))⟩⟩)))
      subst ea eb
      obtain ⟨l, hl6, hll⟩ := hl f hf
      exact ⟨7, ck_ysL _ f t hf ht _ _ _ _ ce _ (br_t ck_66 ⟨6, ck_ytL _ f t hf ht hft _ dn _ _ _ up hd cs (fun cu' hcu => ⟨by trivial, c, up, _, _, _, _, dn, cu', rfl, rfl, h1, h3, hd, hu, hcu, ck_hi_u hh (hh f hf), ck_he_u he (fun z => absurd z (by decide)), ck_hl_u hl hl6 hll⟩) 5 0 rfl cu (ck_ov_0 t _ hB)⟩) 6 0 rfl⟩
  · exact br_f hy (ck_yf _ _ _ _ _ _ hf (br_f (by decide) (ck_yf _ _ _ _ _ _ ht (br_f (by decide) ⟨vf, br_f hx ⟨vt, br_f hy ⟨by trivial, J⟩⟩⟩))))
theorem i_vc_crash {k : Nat} {u : SX} {v : SY} (I : i_Rel k u v) (hk : k + 4 ≤ 2049) (v1 : Int32) : wpX_crash (fun r u' => wpY_crash (fun r' v' => r' = r ∧ i_Rel (k + 4) u' v') v v1) u v1 := by
  obtain ⟨c, up, ex, ln, cs, ce, dn, cu, rfl, rfl, h1, h3, hd, hu, hB, hh, he, hl⟩ := I
  have J : i_Rel (k + 4) (nI c, up, ex, ln, cs, ce) (nI c, dn, ex, ln, ce, cu) := ⟨c, up, ex, ln, cs, ce, dn, cu, rfl, rfl, h1, h3, hd, hu, hB, hh, he, hl⟩
  unfold wpX_crash wpY_crash
  dsimp only
  rcases ck_sn v1 with h | ⟨s, hs, rfl⟩
  · exact ck_xv_b h (br_t rfl (ck_yv_b _ _ _ _ _ _ h (br_t rfl ⟨rfl, J⟩)))
  have es : (nI s).toNatClampNeg = s := ck_cl (by omega)
  have vs : vp_in (nI s) 5 := vp_in_nI hs (by omega)
  have R : i_Rel (k + 4) (nI c, up &&& (((1 : Int32) <<< (nI s &&& 31)) ^^^ (-1)), ex, ln, cs, ce) (nI c, upd dn s 1, ex, ln, ce, cu) := ⟨c, _, ex, ln, cs, ce, _, cu, rfl, rfl, h1, h3, ck_dn_c hs hd, ck_hi_and hu, hB, hh, he, hl⟩
  refine ck_xv hs (br_f (by decide) (ck_isIn up s hs (fun hb => br_f (by decide) ?_) (fun hb => br_t rfl ?_)))
  · refine fun a ea => ck_yv _ _ _ _ _ _ hs (br_f (by decide) ⟨vs, ?_⟩)
    subst ea
    rw [es, hd s hs, hb]
    refine br_t (by decide) ⟨vs, fun b eb => ?_⟩
    rw [es, ck_nar1] at eb
    subst eb
    exact ⟨rfl, R⟩
  · refine fun a ea => ck_yv _ _ _ _ _ _ hs (br_f (by decide) ⟨vs, ?_⟩)
    subst ea
    rw [es, hd s hs, hb]
    refine br_f (by decide) ⟨vs, fun b eb => ?_⟩
    rw [es, ck_nar1] at eb
    subst eb
    exact ⟨rfl, R⟩
theorem i_vc_restart {k : Nat} {u : SX} {v : SY} (I : i_Rel k u v) (hk : k + 4 ≤ 2049) (v1 : Int32) : wpX_restart (fun r u' => wpY_restart (fun r' v' => r' = r ∧ i_Rel (k + 4) u' v') v v1) u v1 := by
  obtain ⟨c, up, ex, ln, cs, ce, dn, cu, rfl, rfl, h1, h3, hd, hu, hB, hh, he, hl⟩ := I
  have J : i_Rel (k + 4) (nI c, up, ex, ln, cs, ce) (nI c, dn, ex, ln, ce, cu) := ⟨c, up, ex, ln, cs, ce, dn, cu, rfl, rfl, h1, h3, hd, hu, hB, hh, he, hl⟩
  unfold wpX_restart wpY_restart
  dsimp only
  rcases ck_sn v1 with h | ⟨s, hs, rfl⟩
  · exact ck_xv_b h (br_t rfl (ck_yv_b _ _ _ _ _ _ h (br_t rfl ⟨rfl, J⟩)))
  have es : (nI s).toNatClampNeg = s := ck_cl (by omega)
  have vs : vp_in (nI s) 5 := vp_in_nI hs (by omega)
  have R : i_Rel (k + 4) (nI c, up ||| ((1 : Int32) <<< (nI s &&& 31)), ex, ln, cs, ce) (nI c, upd dn s 0, ex, ln, ce, cu) := ⟨c, _, ex, ln, cs, ce, _, cu, rfl, rfl, h1, h3, ck_dn_r hs hd, ck_hi_set hs hu, hB, hh, he, hl⟩
  refine ck_xv hs (br_f (by decide) (ck_isIn up s hs (fun hb => br_f (by decide) ?_) (fun hb => br_t rfl ?_)))
  · refine fun a ea => ck_yv _ _ _ _ _ _ hs (br_f (by decide) ⟨vs, ?_⟩)
    subst ea
    rw [es, hd s hs, hb]
    refine br_t (by decide) ⟨vs, fun b eb => ?_⟩
    rw [es, ck_nar0] at eb
    subst eb
    exact ⟨rfl, R⟩
  · refine fun a ea => ck_yv _ _ _ _ _ _ hs (br_f (by decide) ⟨vs, ?_⟩)
    subst ea
    rw [es, hd s hs, hb]
    refine br_f (by decide) ⟨vs, fun b eb => ?_⟩
    rw [es, ck_nar0] at eb
    subst eb
    exact ⟨rfl, R⟩
theorem i_vc_loseDisk {k : Nat} {u : SX} {v : SY} (I : i_Rel k u v) (hk : k + 4 ≤ 2049) (v1 : Int32) : wpX_loseDisk (fun r u' => wpY_loseDisk (fun r' v' => r' = r ∧ i_Rel (k + 4) u' v') v v1) u v1 := by
  obtain ⟨c, up, ex, ln, cs, ce, dn, cu, rfl, rfl, h1, h3, hd, hu, hB, hh, he, hl⟩ := I
  have J : i_Rel (k + 4) (nI c, up, ex, ln, cs, ce) (nI c, dn, ex, ln, ce, cu) := ⟨c, up, ex, ln, cs, ce, dn, cu, rfl, rfl, h1, h3, hd, hu, hB, hh, he, hl⟩
  unfold wpX_loseDisk wpY_loseDisk
  dsimp only
  rcases ck_sn v1 with h | ⟨s, hs, rfl⟩
  · exact ck_xv_b h (br_t rfl (ck_yv_b _ _ _ _ _ _ h (br_t rfl ⟨rfl, J⟩)))
  refine ck_xv hs (br_f (by decide) (ck_cr s hs _ _ _ _ _ _ (ck_xl _ _ _ _ _ _ _ _ ?_)))
  refine ck_yv _ _ _ _ _ _ hs (br_f (by decide) (ck_yld s hs _ _ _ _ _ _ (ck_B cs) hB ⟨5, ck_ylL _ s hs _ _ dn ex ln ce (ck_B cs) (fun cu' hcu => ?_) 4 0 rfl cu (ck_Cu_c hB (fun g _ t _ => if_neg (by omega)))⟩))
  refine ⟨rfl, c, up, ex, ln, _, ce, dn, cu', rfl, rfl, h1, h3, hd, hu, ck_ol_4 hs hcu, fun g hg => ?_, fun g hg z => ?_, hl⟩
  · unfold ck_lc
    rw [if_pos hg]
    exact ck_hi_and (hh g hg)
  · unfold ck_lc
    rw [if_pos hg, he g hg z]
    exact Int32.zero_and
theorem i_vc_damage {k : Nat} {u : SX} {v : SY} (I : i_Rel k u v) (hk : k + 4 ≤ 2049) (v1 : Int32) (v2 : Int32) : wpX_damage (fun r u' => wpY_damage (fun r' v' => r' = r ∧ i_Rel (k + 4) u' v') v v1 v2) u v1 v2 := by
  obtain ⟨c, up, ex, ln, cs, ce, dn, cu, rfl, rfl, h1, h3, hd, hu, hB, hh, he, hl⟩ := I
  have J : i_Rel (k + 4) (nI c, up, ex, ln, cs, ce) (nI c, dn, ex, ln, ce, cu) := ⟨c, up, ex, ln, cs, ce, dn, cu, rfl, rfl, h1, h3, hd, hu, hB, hh, he, hl⟩
  unfold wpX_damage wpY_damage
  dsimp only
  rcases ck_sn v1 with h | ⟨s, hs, rfl⟩
  · exact ck_xv_b h (br_t rfl (ck_yv_b _ _ _ _ _ _ h (br_t rfl ⟨rfl, J⟩)))
  rcases ck_fn v2 with h | ⟨f, hf, rfl⟩
  · exact ck_xv hs (br_f (by decide) (ck_xe_b _ _ _ _ _ _ h (br_f (by decide) (ck_yv _ _ _ _ _ _ hs (br_f (by decide) (ck_yf_b _ _ _ _ _ _ h (br_t rfl ⟨rfl, J⟩)))))))
  have ef : (nI f).toNatClampNeg = f := ck_cl (by omega)
  have vf : vp_in (nI f) 4 := vp_in_nI hf (by omega)
  have e5 := ck_c5 hf hs
  simp only [ef, e5]
  by_cases hx : ex f = 0
  · exact ck_xv hs (br_f (by decide) (ck_xe_n _ _ _ _ _ _ hf hx (br_f (by decide) (ck_yv _ _ _ _ _ _ hs (br_f (by decide) (ck_yf _ _ _ _ _ _ hf (br_f (by decide) ⟨vf, br_t hx ⟨by trivial, J⟩⟩)))))))
  have R : i_Rel (k + 4) (nI c, up, ex, ln, upd cs f (cs f &&& (((1 : Int32) <<< (nI s &&& 31)) ^^^ (-1))), ce) (nI c, dn, ex, ln, ce, upd cu (f * 5 + s) 0) := by
    refine ⟨c, up, ex, ln, _, ce, dn, _, rfl, rfl, h1, h3, hd, hu, ck_Cu_u (b := false) hB hs ?_ (fun g hg t ht n => ?_), ck_hi_u hh (ck_hi_and (hh f hf)), ck_he_c he hx, hl⟩
    · show bt (upd cs f _ f) s = false
      rw [pk_us, ck_clr _ s (by omega)]
      simp
    · show bt (upd cs f _ g) t = bt (cs g) t
      by_cases e : g = f
      · subst e
        have e2 : ¬ t = s := fun z => n ⟨rfl, z⟩
        rw [pk_us, ck_clr _ s (by omega)]
        simp [e2]
      · rw [pk_un e]
  refine ck_xv hs (br_f (by decide) (ck_xe _ _ _ _ _ _ hf hx (br_t rfl ⟨vf, ck_isIn (cs f) s hs (fun hb => br_f (by decide) ⟨vf, vf, fun a ea => ?_⟩) (fun hb => br_t rfl ⟨vf, vf, fun a ea => ?_⟩)⟩)))
  · rw [ef] at ea
    subst ea
    refine ck_yv _ _ _ _ _ _ hs (br_f (by decide) (ck_yf _ _ _ _ _ _ hf (br_f (by decide) ⟨vf, br_f hx ⟨ck_i5 hf hs, br_f (by rw [hB f hf s hs]; exact ck_in_t hb) ⟨ck_i5 hf hs, fun b eb => ?_⟩⟩⟩)))
    rw [e5, ck_nar0] at eb
    subst eb
    exact ⟨rfl, R⟩
  · rw [ef] at ea
    subst ea
    refine ck_yv _ _ _ _ _ _ hs (br_f (by decide) (ck_yf _ _ _ _ _ _ hf (br_f (by decide) ⟨vf, br_f hx ⟨ck_i5 hf hs, br_t (by rw [hB f hf s hs]; exact ck_in_f hb) ⟨ck_i5 hf hs, fun b eb => ?_⟩⟩⟩)))
    rw [e5, ck_nar0] at eb
    subst eb
    exact ⟨rfl, R⟩
theorem i_vc_heal {k : Nat} {u : SX} {v : SY} (I : i_Rel k u v) (hk : k + 4 ≤ 2049) : wpX_heal (fun r u' => wpY_heal (fun r' v' => r' = r ∧ i_Rel (k + 4) u' v') v) u := by
  obtain ⟨c, up, ex, ln, cs, ce, dn, cu, rfl, rfl, h1, h3, hd, hu, hB, hh, he, hl⟩ := I
  obtain ⟨r, cs', cu', g1, g2, g3, g4, g5⟩ := ck_heL c h3 up ex ln ce dn hd 4 0 rfl cs cu 0 hB hh he
  exact ⟨5, g4 _ ⟨5, g5 _ ⟨rfl, c, up, ex, ln, cs', ce, dn, cu', rfl, rfl, h1, h3, hd, hu, g1, g2, g3, hl⟩⟩⟩
theorem i_vc_read {k : Nat} {u : SX} {v : SY} (I : i_Rel k u v) (hk : k + 4 ≤ 2049) (v1 : Int32) (v2 : Int32) : wpX_read (fun r => wpY_read (fun r' => r' = r ∧ i_Rel (k + 4) u v) v v1 v2) u v1 v2 := by
  have J : i_Rel (k + 4) u v := I
  obtain ⟨c, up, ex, ln, cs, ce, dn, cu, rfl, rfl, h1, h3, hd, hu, hB, hh, he, hl⟩ := I
  unfold wpX_read wpY_read
  dsimp only
  rcases ck_ref (nI c) up ex ln cs ce dn cu (nI c) hd hB hh v1 with ⟨r, r0, r1, gX, gY⟩ | ⟨f, hf, rfl, hx, ha⟩
  · exact gX _ (br_f r0 (gY _ (br_f r1 ⟨rfl, J⟩)))
  rcases ck_cn v2 with h | ⟨q, hq, rfl⟩
  · exact ck_xa _ _ _ _ _ _ hf hx ha (br_t rfl (ck_xc_b h (br_t rfl (ck_yr _ _ _ _ _ _ hf hx up hd cs hB (hh f hf) ha (br_t (by decide) (br_c (fun _ => ⟨rfl, J⟩) (fun n => br_f (ck_n5 (h.resolve_left n)) ⟨rfl, J⟩)))))))
  · exact ck_xa _ _ _ _ _ _ hf hx ha (br_t rfl (ck_xc hq (br_f (by decide) ⟨ck_i6 hf hq, ck_yr _ _ _ _ _ _ hf hx up hd cs hB (hh f hf) ha (br_t (by decide) (br_f (nI_pos (by omega)) (br_t (nI_le (b := 5) (by omega) (by decide)) ⟨ck_i6 hf hq, rfl, J⟩)))⟩)))
theorem i_vc_length {k : Nat} {u : SX} {v : SY} (I : i_Rel k u v) (hk : k + 4 ≤ 2049) (v1 : Int32) : wpX_length (fun r => wpY_length (fun r' => r' = r ∧ i_Rel (k + 4) u v) v v1) u v1 := by
  have J : i_Rel (k + 4) u v := I
  obtain ⟨c, up, ex, ln, cs, ce, dn, cu, rfl, rfl, h1, h3, hd, hu, hB, hh, he, hl⟩ := I
  unfold wpX_length wpY_length
  dsimp only
  rcases ck_ref (nI c) up ex ln cs ce dn cu (nI c) hd hB hh v1 with ⟨r, r0, r1, gX, gY⟩ | ⟨f, hf, rfl, hx, ha⟩
  · exact gX _ (br_f r0 (gY _ (br_f r1 ⟨rfl, J⟩)))
  have vf : vp_in (nI f) 4 := vp_in_nI hf (by omega)
  exact ck_xa _ _ _ _ _ _ hf hx ha (br_t rfl ⟨vf, ck_yr _ _ _ _ _ _ hf hx up hd cs hB (hh f hf) ha (br_t (by decide) ⟨vf, rfl, J⟩)⟩)
theorem i_vc_replicas {k : Nat} {u : SX} {v : SY} (I : i_Rel k u v) (hk : k + 4 ≤ 2049) (v1 : Int32) : wpX_replicas (fun r => wpY_replicas (fun r' => r' = r ∧ i_Rel (k + 4) u v) v v1) u v1 := by
  have J : i_Rel (k + 4) u v := I
  obtain ⟨c, up, ex, ln, cs, ce, dn, cu, rfl, rfl, h1, h3, hd, hu, hB, hh, he, hl⟩ := I
  unfold wpX_replicas wpY_replicas
  dsimp only
  rcases ck_fn v1 with h | ⟨f, hf, rfl⟩
  · exact ck_xe_b _ _ _ _ _ _ h (br_f (by decide) (ck_yf_b _ _ _ _ _ _ h (br_t rfl ⟨rfl, J⟩)))
  have ef : (nI f).toNatClampNeg = f := ck_cl (by omega)
  have vf : vp_in (nI f) 4 := vp_in_nI hf (by omega)
  rw [ef]
  by_cases hx : ex f = 0
  · exact ck_xe_n _ _ _ _ _ _ hf hx (br_f (by decide) (ck_yf _ _ _ _ _ _ hf (br_f (by decide) ⟨vf, br_t hx ⟨rfl, J⟩⟩)))
  · exact ck_xe _ _ _ _ _ _ hf hx (br_t rfl ⟨vf, ck_yf _ _ _ _ _ _ hf (br_f (by decide) ⟨vf, br_f hx ⟨6, ck_ymL _ f hf _ _ _ _ _ _ cs hB (hh f hf) ⟨rfl, J⟩ 5 0 rfl 0 (fun j => by rw [b_0]; simp)⟩⟩)⟩)
