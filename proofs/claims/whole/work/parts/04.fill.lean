/-! addMissingReplicas against fill, round by round of the reference -/
theorem ck_flL (c : Nat) (hc : c ≤ 3) (up : Int32) (ex ln ce dn : Nat → Int32) (hd : ck_Dn dn up) (f : Nat) (hf : f < 4) (h0 : Nat) (hh0 : h0 ≤ 5) :
    ∀ e k, k + e = 5 → ∀ (cs cu : Nat → Int32) (made : Nat), ck_Cu cu (ck_B cs) → (∀ g, g < 4 → ck_Hi (cs g)) → ck_H cs up f = made + h0 →
    (c ≤ ck_H cs up f + e ∨ ck_pk (ck_lB (ck_B cs)) (ck_cd up (ck_B cs) f) 5 = none) →
    ∃ (r : Int32) (cs' cu' : Nat → Int32), ck_Cu cu' (ck_B cs') ∧ (∀ g, g < 4 → ck_Hi (cs' g)) ∧ (∀ g, g ≠ f → cs' g = cs g) ∧
      (∀ post : Int32 → SX → Prop, post r (nI c, up, ex, ln, cs', ce) → ∃ n, wX_addMissingReplicas_22 post (nI f) (nI c - nI h0) (nI c) up n (nI made) ex ln cs ce) ∧
      (∀ post : Int32 → SY → Prop, post r (nI c, dn, ex, ln, ce, cu') → wY_fill_4 post (nI f) (nI c) (e + 1) (nI made) (nI k) dn ex ln ce cu) := by
  intro e
  induction e with
  | zero =>
    intro k hk cs cu made hB hh hH hst
    obtain rfl : k = 5 := hk
    have hle := ck_H_le cs up f
    refine ⟨nI made, cs, cu, hB, hh, fun _ _ => rfl, fun post hp => ?_, fun post hp => br_t ck_55 hp⟩
    by_cases hcm : c ≤ made + h0
    · exact ⟨1, br_t ((ck_sle (by omega) (by omega) (by omega)).mpr hcm) hp⟩
    · have hn : ck_pk (ck_lB (ck_B cs)) (ck_cd up (ck_B cs) f) 5 = none := by
        rcases hst with h | h
        · omega
        · exact h
      refine ⟨1, br_f (fun z => hcm ((ck_sle (by omega) (by omega) (by omega)).mp z)) ⟨vp_in_nI hf (by omega), ck_fo _ (ck_cd up (ck_B cs) f) (fun s hs => ?_) _ _ _ _ _ _ ?_⟩⟩
      · rw [ck_cl (f := f) (by omega)]
        exact ck_not up (cs f) s (by omega)
      · rw [hn]
        exact br_t rfl hp
  | succ e ih =>
    intro k hk cs cu made hB hh hH hst
    have hle := ck_H_le cs up f
    have hk5 : k < 5 := by omega
    have hns : ∀ (post : Int32 → Prop), post (ck_en (ck_pk (ck_lB (ck_B cs)) (ck_cd up (ck_B cs) f) 5)) → wpY_nextServer post (nI c, dn, ex, ln, ce, cu) (nI f) := fun post hp => ck_ns f hf (nI c) dn ex ln ce cu up hd (ck_B cs) hB hp
    have hho : ∀ (post : Int32 → Prop), post (nI (ck_H cs up f)) → wpY_holders post (nI c, dn, ex, ln, ce, cu) (nI f) 1 := fun post hp => ck_ho f hf 1 (nI c) dn ex ln ce cu up hd (ck_B cs) hB (fun s => bt (cs f) s && bt up s) (fun s _ => rfl) hp
    cases hq : ck_pk (ck_lB (ck_B cs)) (ck_cd up (ck_B cs) f) 5 with
    | none =>
      obtain ⟨r, cs', cu', g1, g2, g3, g4, g5⟩ := ih (k + 1) (by omega) cs cu made hB hh hH (Or.inr hq)
      refine ⟨r, cs', cu', g1, g2, g3, g4, fun post hp => br_f (ck_le5 hk5) (hns _ ?_)⟩
      rw [hq]
      refine br_t (by decide) (fun y ey => ?_)
      subst ey
      rw [nI_1 k]
      exact g5 post hp
    | some s =>
      obtain ⟨hs5, hcd⟩ := ck_pk_in hq
      by_cases hcm : c ≤ ck_H cs up f
      · obtain ⟨r, cs', cu', g1, g2, g3, g4, g5⟩ := ih (k + 1) (by omega) cs cu made hB hh hH (Or.inl (by omega))
        refine ⟨r, cs', cu', g1, g2, g3, g4, fun post hp => br_f (ck_le5 hk5) (hns _ ?_)⟩
        rw [hq]
        refine br_f (nI_pos (by omega)) (hho _ (br_t (nI_le hcm (by omega)) (fun y ey => ?_)))
        subst ey
        rw [nI_1 k]
        exact g5 post hp
      · have hcd2 : bt up s = true ∧ bt (cs f) s = false := by
          unfold ck_cd at hcd
          simpa using hcd
        have hB' : ck_Cu (upd cu (f * 5 + s) 1) (ck_B (upd cs f (cs f ||| ((1 : Int32) <<< (nI s &&& 31))))) := by
          refine ck_Cu_u (b := true) hB hs5 ?_ (fun g hg t ht n => ?_)
          · show bt (upd cs f _ f) s = true
            rw [pk_us, ck_set _ s (by omega)]
            simp
          · show bt (upd cs f _ g) t = bt (cs g) t
            by_cases e1 : g = f
            · subst e1
              have e2 : ¬ t = s := fun z => n ⟨rfl, z⟩
              rw [pk_us, ck_set _ s (by omega)]
              simp [e2]
            · rw [pk_un e1]
        have hh' := ck_hi_u (f := f) hh (ck_hi_set hs5 (hh f hf))
        have hH' : ck_H (upd cs f (cs f ||| ((1 : Int32) <<< (nI s &&& 31)))) up f = ck_H cs up f + 1 := by
          unfold ck_H
          refine ck_cnt_s (s := s) (fun t ht => ?_) hs5 (by rw [hcd2.2]; rfl)
          rw [pk_us, ck_set _ s (by omega)]
          by_cases e2 : t = s
          · subst e2; simp [hcd2.1]
          · simp [e2]
        have hst2 : c ≤ ck_H cs up f + (e + 1) := by
          rcases hst with h | h
          · exact h
          · rw [hq] at h; exact nomatch h
        obtain ⟨r, cs', cu', g1, g2, g3, g4, g5⟩ := ih (k + 1) (by omega) _ _ (made + 1) hB' hh' (by omega) (Or.inl (by omega))
        refine ⟨r, cs', cu', g1, g2, fun g hg => by rw [g3 g hg, pk_un hg], fun post hp => ?_, fun post hp => br_f (ck_le5 hk5) (hns _ ?_)⟩
        · obtain ⟨n, hn⟩ := g4 post hp
          refine ⟨n + 1, br_f (fun z => hcm (by rw [hH]; exact (ck_sle (by omega) (by omega) (by omega)).mp z)) ⟨vp_in_nI hf (by omega), ck_fo _ (ck_cd up (ck_B cs) f) (fun s hs => ?_) _ _ _ _ _ _ ?_⟩⟩
          · rw [ck_cl (f := f) (by omega)]
            exact ck_not up (cs f) s (by omega)
          · rw [hq]
            refine br_f (ck_ne1 (by omega)) ⟨vp_in_nI hf (by omega), vp_in_nI hf (by omega), fun a ea y ey => ?_⟩
            subst ea ey
            rw [ck_cl (f := f) (by omega), nI_1 made]
            exact hn
        · rw [hq]
          refine br_f (nI_pos (by omega)) (hho _ (br_f (nI_ge (by omega) (by omega)) ⟨ck_i5 hf hs5, fun a ea y ey z ez => ?_⟩))
          subst ea ey ez
          rw [show (nI f * 5 + ck_en (some s)).toNatClampNeg = f * 5 + s from ck_c5 hf hs5, ck_nar1, nI_1 made, nI_1 k]
          exact g5 post hp
theorem ck_fl (c : Nat) (hc : c ≤ 3) (up : Int32) (ex ln ce dn : Nat → Int32) (hd : ck_Dn dn up) (f : Nat) (hf : f < 4) (cs cu : Nat → Int32) (hB : ck_Cu cu (ck_B cs)) (hh : ∀ g, g < 4 → ck_Hi (cs g)) :
    ∃ (r : Int32) (cs' cu' : Nat → Int32), ck_Cu cu' (ck_B cs') ∧ (∀ g, g < 4 → ck_Hi (cs' g)) ∧ (∀ g, g ≠ f → cs' g = cs g) ∧
      (∀ post : Int32 → SX → Prop, post r (nI c, up, ex, ln, cs', ce) → wpX_addMissingReplicas post (nI c, up, ex, ln, cs, ce) (nI f)) ∧
      (∀ post : Int32 → SY → Prop, post r (nI c, dn, ex, ln, ce, cu') → wpY_fill post (nI c, dn, ex, ln, ce, cu) (nI f)) := by
  have hle := ck_H_le cs up f
  obtain ⟨r, cs', cu', g1, g2, g3, g4, g5⟩ := ck_flL c hc up ex ln ce dn hd f hf (ck_H cs up f) hle 5 0 rfl cs cu 0 hB hh (by omega) (Or.inl (by omega))
  refine ⟨r, cs', cu', g1, g2, g3, fun post hp => ⟨vp_in_nI hf (by omega), ?_⟩, fun post hp => ⟨6, g5 post hp⟩⟩
  rw [ck_cl (f := f) (by omega)]
  refine ck_cs _ (fun y ey => ?_)
  subst ey
  have e : ck_cnt (bt (cs f &&& up)) 5 = ck_H cs up f := ck_cnt_c (fun i _ => b_and _ _ _)
  rw [e]
  exact g4 post hp
