section
theorem pk_us {f : Nat → Int32} {k : Nat} {x : Int32} : upd f k x k = x := if_pos rfl
theorem pk_un {f : Nat → Int32} {k j : Nat} {x : Int32} (h : j ≠ k) : upd f k x j = f j := if_neg h
theorem pk_sub {a b : Nat} (h : b ≤ a) : nI a - nI b = nI (a - b) := by
  obtain ⟨c, rfl⟩ : ∃ c, a = c + b := ⟨a - b, by omega⟩
  rw [← nI_add, Int32.add_sub_cancel, Nat.add_sub_cancel]
theorem pk_mul (a b : Nat) : nI a * nI b = nI (a * b) := (Int32.ofNat_mul a b).symm
theorem pk_sub_toInt {a b : Nat} (ha : a < 2 ^ 30) (hb : b < 2 ^ 30) : (nI a - nI b).toInt = (a : Int) - b := by
  rw [Int32.toInt_sub, nI_toInt (by omega), nI_toInt (by omega)]
  exact Int.bmod_eq_of_le (by omega) (by omega)
theorem pk_ix (x : Int32) {n : Nat} (hn : n < 2 ^ 31) : x < 0 ∨ nI n ≤ x ∨ ∃ j : Nat, j < n ∧ x = nI j := by
  by_cases h : x < 0
  · exact Or.inl h
  · obtain ⟨j, hj, rfl⟩ := nI_of h
    by_cases h2 : j < n
    · exact Or.inr (Or.inr ⟨j, h2, rfl⟩)
    · exact Or.inr (Or.inl (nI_le (by omega) hj))
theorem pk_le {x y : Int32} {A B : Prop} (a b : Nat) (f : a ≤ b → A) (g : b < a → B) (hx : x = nI a := by rfl) (hy : y = nI b := by rfl) (ha : a < 2 ^ 31 := by omega) (hb : b < 2 ^ 31 := by omega) : (x ≤ y → A) ∧ (¬ x ≤ y → B) := by
  subst hx hy
  rw [nI_leI ha hb]
  exact ⟨f, fun z => g (by omega)⟩
theorem pk_lt {x y : Int32} {A B : Prop} (a b : Nat) (f : a < b → A) (g : b ≤ a → B) (hx : x = nI a := by rfl) (hy : y = nI b := by rfl) (ha : a < 2 ^ 31 := by omega) (hb : b < 2 ^ 31 := by omega) : (x < y → A) ∧ (¬ x < y → B) := by
  subst hx hy
  rw [nI_ltI ha hb]
  exact ⟨f, fun z => g (by omega)⟩
theorem pk_eq {x y : Int32} {A B : Prop} (a b : Nat) (f : a = b → A) (g : a ≠ b → B) (hx : x = nI a := by rfl) (hy : y = nI b := by rfl) (ha : a < 2 ^ 31 := by omega) (hb : b < 2 ^ 31 := by omega) : (x = y → A) ∧ (¬ x = y → B) := by
  subst hx hy
  rw [nI_eq ha hb]
  exact ⟨f, g⟩
theorem pk_in {x : Int32} (n N : Nat) (h : n < N) (hx : x = nI n := by rfl) (hN : N < 2 ^ 31 := by omega) : vp_in x N := by
  subst hx
  exact vp_in_nI h hN
theorem pk_cl {x : Int32} (n : Nat) (hx : x = nI n := by rfl) (h : n < 2 ^ 31 := by omega) : x.toNatClampNeg = n := by
  subst hx
  exact nI_clamp h
def bt (x : Int32) (i : Nat) : Bool := x.toBitVec.getLsbD i
theorem b_ext {x y : Int32} (h : ∀ i, i < 32 → bt x i = bt y i) : x = y := Int32.toBitVec_inj.mp (BitVec.eq_of_getLsbD_eq (fun i hi => h i hi))
theorem b_or (x y : Int32) (i : Nat) : bt (x ||| y) i = (bt x i || bt y i) := by unfold bt; rw [Int32.toBitVec_or, BitVec.getLsbD_or]
theorem b_and (x y : Int32) (i : Nat) : bt (x &&& y) i = (bt x i && bt y i) := by unfold bt; rw [Int32.toBitVec_and, BitVec.getLsbD_and]
theorem b_xor (x y : Int32) (i : Nat) : bt (x ^^^ y) i = (bt x i ^^ bt y i) := by unfold bt; rw [Int32.toBitVec_xor, BitVec.getLsbD_xor]
theorem b_big {x : Int32} {i : Nat} (h : 32 ≤ i) : bt x i = false := BitVec.getLsbD_of_ge _ _ h
theorem b_m1 : ∀ i, i < 32 → bt (-1) i = true := by decide +kernel
theorem b_0 (i : Nat) : bt 0 i = false := BitVec.getLsbD_zero
theorem s_l : ∀ n, n < 32 → ((nI n &&& 31).toBitVec.smod 32).toNat = n := by decide +kernel
theorem b_shl (n : Nat) (hn : n < 32) (x : Int32) {i : Nat} (hi : i < 32) : bt (x <<< (nI n &&& 31)) i = (decide (n ≤ i) && bt x (i - n)) := by
  unfold bt
  rw [Int32.toBitVec_shiftLeft]
  show (x.toBitVec <<< ((nI n &&& 31).toBitVec.smod 32).toNat).getLsbD i = _
  rw [s_l n hn, BitVec.getLsbD_shiftLeft]
  rcases Nat.lt_or_ge i n with h | h
  · simp [h, Nat.not_le.mpr h]
  · simp [hi, h, Nat.not_lt.mpr h]
theorem b_sshr (n : Nat) (hn : n < 32) (x : Int32) {i : Nat} (hi : i < 32) : bt (x >>> (nI n &&& 31)) i = if n + i < 32 then bt x (n + i) else bt x 31 := by
  unfold bt
  rw [Int32.toBitVec_shiftRight]
  show (x.toBitVec.sshiftRight ((nI n &&& 31).toBitVec.smod 32).toNat).getLsbD i = _
  rw [s_l n hn, BitVec.getLsbD_sshiftRight, BitVec.msb_eq_getLsbD_last]
  simp [hi]
/-! own rows: numbers, indices, bits -/
theorem ck_nar0 : vp_nar .boolean 0 = 0 := by decide +kernel
theorem ck_nar1 : vp_nar .boolean 1 = 1 := by decide +kernel
def ck_in (b : Bool) : Int32 := if b = true then 1 else 0
theorem ck_narI (b : Bool) : vp_nar .boolean (ck_in b) = ck_in b := by cases b <;> decide +kernel
theorem ck_in_t {b : Bool} (h : b = true) : ¬ ck_in b = 0 := by subst h; decide
theorem ck_in_f {b : Bool} (h : b = false) : ck_in b = 0 := by subst h; rfl
theorem ck_cl {f : Nat} (h : f < 100) : (nI f).toNatClampNeg = f := nI_clamp (by omega)
theorem ck_x6 (f c : Nat) : nI f * 6 + nI c = nI (f * 6 + c) := by
  rw [show (6 : Int32) = nI 6 from rfl, pk_mul, nI_add]
theorem ck_x5 (f c : Nat) : nI f * 5 + nI c = nI (f * 5 + c) := by
  rw [show (5 : Int32) = nI 5 from rfl, pk_mul, nI_add]
theorem ck_i6 {f c : Nat} (hf : f < 4) (hc : c < 6) : vp_in (nI f * 6 + nI c) 24 := by
  rw [ck_x6]; exact vp_in_nI (by omega) (by omega)
theorem ck_i5 {f c : Nat} (hf : f < 4) (hc : c < 5) : vp_in (nI f * 5 + nI c) 20 := by
  rw [ck_x5]; exact vp_in_nI (by omega) (by omega)
theorem ck_c6 {f c : Nat} (hf : f < 4) (hc : c < 6) : (nI f * 6 + nI c).toNatClampNeg = f * 6 + c := by
  rw [ck_x6]; exact nI_clamp (by omega)
theorem ck_c5 {f c : Nat} (hf : f < 4) (hc : c < 5) : (nI f * 5 + nI c).toNatClampNeg = f * 5 + c := by
  rw [ck_x5]; exact nI_clamp (by omega)
theorem ck_ne1 {b : Nat} (h : b < 100) : ¬ nI b = -1 := by
  intro e
  have t := nI_toInt (n := b) (by omega)
  rw [e] at t
  have t2 : (-1 : Int32).toInt = -1 := by decide
  omega
theorem ck_sle {c h m : Nat} (hc : c < 100) (hh : h < 100) (hm : m < 100) : nI c - nI h ≤ nI m ↔ c ≤ m + h := by
  rw [Int32.le_iff_toInt_le, pk_sub_toInt (by omega) (by omega), nI_toInt (by omega)]
  omega
theorem ck_fn (x : Int32) : (x < 0 ∨ 4 ≤ x) ∨ ∃ j : Nat, j < 4 ∧ x = nI j := by
  rcases pk_ix x (n := 4) (by decide) with h | h | h
  · exact Or.inl (Or.inl h)
  · exact Or.inl (Or.inr h)
  · exact Or.inr h
theorem ck_sn (x : Int32) : (x < 0 ∨ 5 ≤ x) ∨ ∃ j : Nat, j < 5 ∧ x = nI j := by
  rcases pk_ix x (n := 5) (by decide) with h | h | h
  · exact Or.inl (Or.inl h)
  · exact Or.inl (Or.inr h)
  · exact Or.inr h
theorem ck_cn (x : Int32) : (x < 0 ∨ 6 ≤ x) ∨ ∃ j : Nat, j < 6 ∧ x = nI j := by
  rcases pk_ix x (n := 6) (by decide) with h | h | h
  · exact Or.inl (Or.inl h)
  · exact Or.inl (Or.inr h)
  · exact Or.inr h
theorem ck_le4 {i : Nat} (h : i < 4) : ¬ (4 : Int32) ≤ nI i := nI_ge (b := 4) h (by decide)
theorem ck_le5 {i : Nat} (h : i < 5) : ¬ (5 : Int32) ≤ nI i := nI_ge (b := 5) h (by decide)
theorem ck_le6 {i : Nat} (h : i < 6) : ¬ (6 : Int32) ≤ nI i := nI_ge (b := 6) h (by decide)
theorem ck_44 : (4 : Int32) ≤ nI 4 := by decide +kernel
theorem ck_55 : (5 : Int32) ≤ nI 5 := by decide +kernel
theorem ck_66 : (6 : Int32) ≤ nI 6 := by decide +kernel
theorem ck_us {f : Nat → Int32} {k : Nat} {x : Int32} (h : f k = x) : upd f k x = f := by
  funext j
  by_cases e : j = k
  · subst e; rw [pk_us, h]
  · rw [pk_un e]
theorem ck_b1 : ∀ i, i < 32 → bt 1 i = decide (i = 0) := by decide +kernel
theorem ck_one (s : Nat) (hs : s < 32) (i : Nat) (hi : i < 32) : bt ((1 : Int32) <<< (nI s &&& 31)) i = decide (i = s) := by
  rw [b_shl s hs 1 hi, ck_b1 _ (by omega)]
  by_cases e : i = s
  · subst e; simp
  · by_cases e2 : s ≤ i
    · have e3 : ¬ i - s = 0 := by omega
      simp [e, e3]
    · simp [e, e2]
theorem ck_bit (x : Int32) (s : Nat) (hs : s < 32) : ((x >>> (nI s &&& 31)) &&& 1) = 1 ↔ bt x s = true := by
  constructor
  · intro h
    have t := congrArg (fun y => bt y 0) h
    rw [b_and, b_sshr s hs x (by omega), ck_b1 0 (by omega), Nat.add_zero, if_pos hs] at t
    simpa using t
  · intro h
    apply b_ext
    intro i hi
    rw [b_and, b_sshr s hs x hi, ck_b1 i hi]
    by_cases e : i = 0
    · subst e; rw [Nat.add_zero, if_pos hs, h]; rfl
    · simp [e]
theorem ck_set (x : Int32) (s : Nat) (hs : s < 32) (i : Nat) : bt (x ||| ((1 : Int32) <<< (nI s &&& 31))) i = (bt x i || decide (i = s)) := by
  rcases Nat.lt_or_ge i 32 with h | h
  · rw [b_or, ck_one s hs i h]
  · have e : ¬ i = s := by omega
    rw [b_big h, b_big h]; simp [e]
theorem ck_clr (x : Int32) (s : Nat) (hs : s < 32) (i : Nat) : bt (x &&& (((1 : Int32) <<< (nI s &&& 31)) ^^^ (-1))) i = (bt x i && !decide (i = s)) := by
  rcases Nat.lt_or_ge i 32 with h | h
  · rw [b_and, b_xor, ck_one s hs i h, b_m1 i h, Bool.xor_true]
  · rw [b_big h, b_big h]; rfl
theorem ck_not (x y : Int32) (i : Nat) (h : i < 32) : bt (x &&& (y ^^^ (-1))) i = (bt x i && !bt y i) := by
  rw [b_and, b_xor, b_m1 i h, Bool.xor_true]
end
section
/-! pure pictures -/
def ck_cnt (g : Nat → Bool) : Nat → Nat
  | 0 => 0
  | i + 1 => ck_cnt g i + (if g i = true then 1 else 0)
theorem ck_cnt_t {g : Nat → Bool} {i : Nat} (h : g i = true) : ck_cnt g (i + 1) = ck_cnt g i + 1 := by
  show ck_cnt g i + (if g i = true then 1 else 0) = _
  rw [if_pos h]
theorem ck_cnt_f {g : Nat → Bool} {i : Nat} (h : g i = false) : ck_cnt g (i + 1) = ck_cnt g i := by
  show ck_cnt g i + (if g i = true then 1 else 0) = _
  rw [if_neg (by rw [h]; exact Bool.false_ne_true), Nat.add_zero]
theorem ck_cnt_le (g : Nat → Bool) (n : Nat) : ck_cnt g n ≤ n := by
  induction n with
  | zero => exact Nat.le_refl 0
  | succ n ih =>
    cases h : g n
    · rw [ck_cnt_f h]; omega
    · rw [ck_cnt_t h]; omega
theorem ck_cnt_c {g g' : Nat → Bool} {n : Nat} (h : ∀ i, i < n → g' i = g i) : ck_cnt g' n = ck_cnt g n := by
  induction n with
  | zero => rfl
  | succ n ih =>
    have e := ih (fun i hi => h i (by omega))
    cases hg : g n
    · rw [ck_cnt_f hg, ck_cnt_f ((h n (by omega)).trans hg), e]
    · rw [ck_cnt_t hg, ck_cnt_t ((h n (by omega)).trans hg), e]
theorem ck_cnt_0 {g : Nat → Bool} {n : Nat} : ck_cnt g n = 0 ↔ ∀ i, i < n → g i = false := by
  induction n with
  | zero => exact ⟨fun _ i hi => absurd hi (by omega), fun _ => rfl⟩
  | succ n ih =>
    cases hg : g n
    · rw [ck_cnt_f hg, ih]
      constructor
      · intro h i hi
        by_cases e : i = n
        · rw [e, hg]
        · exact h i (by omega)
      · exact fun h i hi => h i (by omega)
    · rw [ck_cnt_t hg]
      constructor
      · intro h; omega
      · intro h
        have := h n (by omega)
        rw [hg] at this
        exact absurd this (by decide)
theorem ck_cnt_s {g g' : Nat → Bool} {n s : Nat} (h : ∀ i, i < n → g' i = (g i || decide (i = s))) (hs : s < n) (hg : g s = false) : ck_cnt g' n = ck_cnt g n + 1 := by
  induction n with
  | zero => omega
  | succ n ih =>
    by_cases e : s = n
    · subst e
      have e1 : ck_cnt g' s = ck_cnt g s := ck_cnt_c (fun i hi => by
        rw [h i (by omega)]
        have : ¬ i = s := by omega
        simp [this])
      have e2 : g' s = true := by rw [h s (by omega)]; simp
      rw [ck_cnt_t e2, ck_cnt_f hg, e1]
    · have e1 := ih (fun i hi => h i (by omega)) (by omega)
      have e2 : g' n = g n := by
        rw [h n (by omega)]
        have : ¬ n = s := by omega
        simp [this]
      cases hn : g n
      · rw [ck_cnt_f hn, ck_cnt_f (e2.trans hn), e1]
      · rw [ck_cnt_t hn, ck_cnt_t (e2.trans hn), e1]
def ck_lB (B : Nat → Nat → Bool) (s : Nat) : Nat := ck_cnt (fun f => B f s) 4
theorem ck_lB_le (B : Nat → Nat → Bool) (s : Nat) : ck_lB B s ≤ 4 := ck_cnt_le _ 4
def ck_pk (L : Nat → Nat) (cand : Nat → Bool) : Nat → Option Nat
  | 0 => none
  | i + 1 => if cand i = true then (match ck_pk L cand i with
    | none => some i
    | some b => if L i < L b then some i else some b) else ck_pk L cand i
theorem ck_pk_f {L : Nat → Nat} {cand : Nat → Bool} {i : Nat} (h : cand i = false) : ck_pk L cand (i + 1) = ck_pk L cand i := by
  rw [ck_pk, if_neg (by rw [h]; exact Bool.false_ne_true)]
theorem ck_pk_n {L : Nat → Nat} {cand : Nat → Bool} {i : Nat} (h : cand i = true) (hn : ck_pk L cand i = none) : ck_pk L cand (i + 1) = some i := by
  rw [ck_pk, if_pos h, hn]
theorem ck_pk_l {L : Nat → Nat} {cand : Nat → Bool} {i b : Nat} (h : cand i = true) (hn : ck_pk L cand i = some b) (hl : L i < L b) : ck_pk L cand (i + 1) = some i := by
  rw [ck_pk, if_pos h, hn]; exact if_pos hl
theorem ck_pk_g {L : Nat → Nat} {cand : Nat → Bool} {i b : Nat} (h : cand i = true) (hn : ck_pk L cand i = some b) (hl : L b ≤ L i) : ck_pk L cand (i + 1) = some b := by
  rw [ck_pk, if_pos h, hn]; exact if_neg (by omega)
theorem ck_pk_in {L : Nat → Nat} {cand : Nat → Bool} {n b : Nat} (h : ck_pk L cand n = some b) : b < n ∧ cand b = true := by
  induction n with
  | zero => exact nomatch h
  | succ n ih =>
    cases hc : cand n
    · rw [ck_pk_f hc] at h
      have := ih h
      exact ⟨by omega, this.2⟩
    · cases hp : ck_pk L cand n with
      | none =>
        rw [ck_pk_n hc hp] at h
        cases h
        exact ⟨by omega, hc⟩
      | some a =>
        by_cases hl : L n < L a
        · rw [ck_pk_l hc hp hl] at h
          cases h
          exact ⟨by omega, hc⟩
        · rw [ck_pk_g hc hp (by omega)] at h
          rw [← hp] at h
          have := ih h
          exact ⟨by omega, this.2⟩
theorem ck_pk_0 {L : Nat → Nat} {cand : Nat → Bool} {n : Nat} : ck_pk L cand n = none ↔ ∀ i, i < n → cand i = false := by
  induction n with
  | zero => exact ⟨fun _ i hi => absurd hi (by omega), fun _ => rfl⟩
  | succ n ih =>
    cases hc : cand n
    · rw [ck_pk_f hc, ih]
      constructor
      · intro h i hi
        by_cases e : i = n
        · rw [e, hc]
        · exact h i (by omega)
      · exact fun h i hi => h i (by omega)
    · constructor
      · intro h
        cases hp : ck_pk L cand n with
        | none => rw [ck_pk_n hc hp] at h; exact nomatch h
        | some a =>
          by_cases hl : L n < L a
          · rw [ck_pk_l hc hp hl] at h; exact nomatch h
          · rw [ck_pk_g hc hp (by omega)] at h; exact nomatch h
      · intro h
        have := h n (by omega)
        rw [hc] at this
        exact absurd this (by decide)
def ck_en : Option Nat → Int32
  | none => -1
  | some b => nI b
def ck_lo (L : Nat → Nat) : Option Nat → Int32
  | none => 0
  | some b => nI (L b)
abbrev ck_B (cs : Nat → Int32) : Nat → Nat → Bool := fun g s => bt (cs g) s
def ck_Cu (cu : Nat → Int32) (B : Nat → Nat → Bool) : Prop := ∀ g, g < 4 → ∀ s, s < 5 → cu (g * 5 + s) = ck_in (B g s)
def ck_Dn (dn : Nat → Int32) (up : Int32) : Prop := ∀ s, s < 5 → dn s = ck_in (!bt up s)
def ck_Hi (x : Int32) : Prop := ∀ i, 5 ≤ i → bt x i = false
theorem ck_hi_0 : ck_Hi 0 := fun i _ => b_0 i
theorem ck_hi_and {x y : Int32} (h : ck_Hi x) : ck_Hi (x &&& y) := fun i hi => by rw [b_and, h i hi]; rfl
theorem ck_hi_set {x : Int32} {s : Nat} (hs : s < 5) (h : ck_Hi x) : ck_Hi (x ||| ((1 : Int32) <<< (nI s &&& 31))) := fun i hi => by
  have e : ¬ i = s := by omega
  rw [ck_set x s (by omega), h i hi]; simp [e]
theorem ck_ext {x y : Int32} (hx : ck_Hi x) (hy : ck_Hi y) (h : ∀ i, i < 5 → bt x i = bt y i) : x = y := b_ext (fun i _ => by
  rcases Nat.lt_or_ge i 5 with z | z
  · exact h i z
  · rw [hx i z, hy i z])
/-! the reading methods of the component -/
theorem ck_isIn {post : Int32 → Prop} (x : Int32) (s : Nat) (hs : s < 5) (h1 : bt x s = true → post 1) (h0 : bt x s = false → post 0) : wpX_isIn post x (nI s) := by
  cases hb : bt x s
  · refine br_f (fun e => ?_) (h0 hb)
    rw [ck_bit x s (by omega), hb] at e
    exact absurd e (by decide)
  · exact br_t ((ck_bit x s (by omega)).mpr hb) (h1 hb)
theorem ck_csL (post : Int32 → Prop) (x : Int32) (hp : post (nI (ck_cnt (bt x) 5))) : ∀ d i, i + d = 5 → wX_countServers_4 post x (d + 1) (nI (ck_cnt (bt x) i)) (nI i) := by
  intro d
  induction d with
  | zero =>
    intro i hi
    obtain rfl : i = 5 := hi
    exact br_t ck_55 hp
  | succ d ih =>
    intro i hi
    refine br_f (ck_le5 (by omega)) (ck_isIn x i (by omega) (fun hb => br_f (by decide) ?_) (fun hb => br_t rfl ?_))
    · intro y ey z ez
      subst ey ez
      rw [nI_1, nI_1 i, ← ck_cnt_t hb]
      exact ih (i + 1) (by omega)
    · intro z ez
      subst ez
      rw [nI_1 i, ← ck_cnt_f hb]
      exact ih (i + 1) (by omega)
theorem ck_cs {post : Int32 → Prop} (x : Int32) (hp : post (nI (ck_cnt (bt x) 5))) : wpX_countServers post x := ⟨6, ck_csL post x hp 5 0 rfl⟩
theorem ck_crL (post : Int32 → Prop) (s : Nat) (hs : s < 5) (cp up : Int32) (ex ln cs ce : Nat → Int32) (hp : post (nI (ck_lB (ck_B cs) s))) : ∀ d i, i + d = 4 → wX_countReplicasOn_4 post (nI s) cp up ex ln cs ce (d + 1) (nI (ck_cnt (fun f => ck_B cs f s) i)) (nI i) := by
  intro d
  induction d with
  | zero =>
    intro i hi
    obtain rfl : i = 4 := hi
    exact br_t ck_44 hp
  | succ d ih =>
    intro i hi
    refine br_f (ck_le4 (by omega)) ⟨vp_in_nI (by omega) (by omega), ?_⟩
    rw [ck_cl (f := i) (by omega)]
    refine ck_isIn (cs i) s hs (fun hb => br_f (by decide) ?_) (fun hb => br_t rfl ?_)
    · intro y ey z ez
      subst ey ez
      have e := ck_cnt_t (g := fun f => ck_B cs f s) (i := i) hb
      rw [nI_1, nI_1 i, ← e]
      exact ih (i + 1) (by omega)
    · intro z ez
      subst ez
      have e := ck_cnt_f (g := fun f => ck_B cs f s) (i := i) hb
      rw [nI_1 i, ← e]
      exact ih (i + 1) (by omega)
theorem ck_cr {post : Int32 → Prop} (s : Nat) (hs : s < 5) (cp up : Int32) (ex ln cs ce : Nat → Int32) (hp : post (nI (ck_lB (ck_B cs) s))) : wpX_countReplicasOn post (cp, up, ex, ln, cs, ce) (nI s) := ⟨5, ck_crL post s hs cp up ex ln cs ce hp 4 0 rfl⟩
theorem ck_foL (post : Int32 → Prop) (x : Int32) (cand : Nat → Bool) (hc : ∀ s, s < 5 → bt x s = cand s) (cp up : Int32) (ex ln cs ce : Nat → Int32) (hp : post (ck_en (ck_pk (ck_lB (ck_B cs)) cand 5))) : ∀ d i, i + d = 5 → wX_firstInOrder_7 post x cp up ex ln cs ce (d + 1) (ck_en (ck_pk (ck_lB (ck_B cs)) cand i)) (ck_lo (ck_lB (ck_B cs)) (ck_pk (ck_lB (ck_B cs)) cand i)) (nI i) := by
  intro d
  induction d with
  | zero =>
    intro i hi
    obtain rfl : i = 5 := hi
    exact br_t ck_55 hp
  | succ d ih =>
    intro i hi
    have ih' := ih (i + 1) (by omega)
    refine br_f (ck_le5 (by omega)) (ck_isIn x i (by omega) (fun hb => br_f (by decide) (ck_cr i (by omega) cp up ex ln cs ce ?_)) (fun hb => br_t rfl ?_))
    · rw [hc i (by omega)] at hb
      cases hq : ck_pk (ck_lB (ck_B cs)) cand i with
      | none =>
        rw [ck_pk_n hb hq] at ih'
        refine br_t rfl (fun y ey => ?_)
        subst ey
        rw [nI_1 i]
        exact ih'
      | some b =>
        have hb2 := ck_pk_in hq
        have l1 := ck_lB_le (ck_B cs) b
        have l2 := ck_lB_le (ck_B cs) i
        refine br_f (ck_ne1 (by omega)) (pk_le (ck_lB (ck_B cs) b) (ck_lB (ck_B cs) i) (fun hl y ey => ?_) (fun hl y ey => ?_))
        · rw [ck_pk_g hb hq hl] at ih'
          subst ey
          rw [nI_1 i]
          exact ih'
        · rw [ck_pk_l hb hq hl] at ih'
          subst ey
          rw [nI_1 i]
          exact ih'
    · rw [hc i (by omega)] at hb
      rw [ck_pk_f hb] at ih'
      intro y ey
      subst ey
      rw [nI_1 i]
      exact ih'
theorem ck_fo {post : Int32 → Prop} (x : Int32) (cand : Nat → Bool) (hc : ∀ s, s < 5 → bt x s = cand s) (cp up : Int32) (ex ln cs ce : Nat → Int32) (hp : post (ck_en (ck_pk (ck_lB (ck_B cs)) cand 5))) : wpX_firstInOrder post (cp, up, ex, ln, cs, ce) x := ⟨6, ck_foL post x cand hc cp up ex ln cs ce hp 5 0 rfl⟩
end
section
/-! the reading methods of the reference -/
theorem ck_ldL (post : Int32 → Prop) (s : Nat) (hs : s < 5) (wt : Int32) (dn ex ln ce cu : Nat → Int32) (B : Nat → Nat → Bool) (hB : ck_Cu cu B) (hp : post (nI (ck_lB B s))) : ∀ d i, i + d = 4 → wY_load_4 post (nI s) wt dn ex ln ce cu (d + 1) (nI (ck_cnt (fun f => B f s) i)) (nI i) := by
  intro d
  induction d with
  | zero =>
    intro i hi
    obtain rfl : i = 4 := hi
    exact br_t ck_44 hp
  | succ d ih =>
    intro i hi
    have ih' := ih (i + 1) (by omega)
    refine br_f (ck_le4 (by omega)) ⟨ck_i5 (by omega) hs, ?_⟩
    rw [ck_c5 (f := i) (by omega) hs, hB i (by omega) s hs]
    cases hb : B i s
    · refine br_t rfl (fun z ez => ?_)
      subst ez
      have e := ck_cnt_f (g := fun f => B f s) (i := i) hb
      rw [e] at ih'
      rw [nI_1 i]
      exact ih'
    · refine br_f (by decide) (fun y ey z ez => ?_)
      subst ey ez
      have e := ck_cnt_t (g := fun f => B f s) (i := i) hb
      rw [e] at ih'
      rw [nI_1, nI_1 i]
      exact ih'
theorem ck_yld {post : Int32 → Prop} (s : Nat) (hs : s < 5) (wt : Int32) (dn ex ln ce cu : Nat → Int32) (B : Nat → Nat → Bool) (hB : ck_Cu cu B) (hp : post (nI (ck_lB B s))) : wpY_load post (wt, dn, ex, ln, ce, cu) (nI s) := ⟨5, ck_ldL post s hs wt dn ex ln ce cu B hB hp 4 0 rfl⟩
theorem ck_hoL (post : Int32 → Prop) (f : Nat) (hf : f < 4) (z0 : Int32) (wt : Int32) (dn ex ln ce cu : Nat → Int32) (up : Int32) (hd : ck_Dn dn up) (B : Nat → Nat → Bool) (hB : ck_Cu cu B) (g : Nat → Bool) (hg : ∀ s, s < 5 → g s = (B f s && (decide (z0 = 0) || bt up s))) (hp : post (nI (ck_cnt g 5))) : ∀ d i, i + d = 5 → wY_holders_5 post (nI f) z0 wt dn ex ln ce cu (d + 1) (nI (ck_cnt g i)) (nI i) := by
  intro d
  induction d with
  | zero =>
    intro i hi
    obtain rfl : i = 5 := hi
    exact br_t ck_55 hp
  | succ d ih =>
    intro i hi
    have hi5 : i < 5 := by omega
    have ih' := ih (i + 1) (by omega)
    have hgi := hg i hi5
    refine br_f (ck_le5 hi5) ⟨ck_i5 hf hi5, ?_⟩
    rw [ck_c5 hf hi5, hB f hf i hi5]
    cases hb : B f i
    · refine br_t rfl (fun z ez => ?_)
      subst ez
      rw [hb, Bool.false_and] at hgi
      rw [ck_cnt_f hgi] at ih'
      rw [nI_1 i]
      exact ih'
    · refine br_f (by decide) ?_
      rw [hb, Bool.true_and] at hgi
      by_cases hz : z0 = 0
      · refine br_t hz (fun y ey z ez => ?_)
        subst ey ez
        rw [decide_eq_true hz, Bool.true_or] at hgi
        rw [ck_cnt_t hgi] at ih'
        rw [nI_1, nI_1 i]
        exact ih'
      · refine br_f hz ⟨vp_in_nI hi5 (by omega), ?_⟩
        rw [decide_eq_false hz, Bool.false_or] at hgi
        rw [ck_cl (f := i) (by omega), hd i hi5]
        cases hu : bt up i
        · refine br_f (by decide) (fun z ez => ?_)
          subst ez
          rw [hu] at hgi
          rw [ck_cnt_f hgi] at ih'
          rw [nI_1 i]
          exact ih'
        · refine br_t (by decide) (fun y ey z ez => ?_)
          subst ey ez
          rw [hu] at hgi
          rw [ck_cnt_t hgi] at ih'
          rw [nI_1, nI_1 i]
          exact ih'
theorem ck_ho {post : Int32 → Prop} (f : Nat) (hf : f < 4) (z0 : Int32) (wt : Int32) (dn ex ln ce cu : Nat → Int32) (up : Int32) (hd : ck_Dn dn up) (B : Nat → Nat → Bool) (hB : ck_Cu cu B) (g : Nat → Bool) (hg : ∀ s, s < 5 → g s = (B f s && (decide (z0 = 0) || bt up s))) (hp : post (nI (ck_cnt g 5))) : wpY_holders post (wt, dn, ex, ln, ce, cu) (nI f) z0 := ⟨6, ck_hoL post f hf z0 wt dn ex ln ce cu up hd B hB g hg hp 5 0 rfl⟩
def ck_cd (up : Int32) (B : Nat → Nat → Bool) (f : Nat) : Nat → Bool := fun s => bt up s && !B f s
theorem ck_nsL (post : Int32 → Prop) (f : Nat) (hf : f < 4) (wt : Int32) (dn ex ln ce cu : Nat → Int32) (up : Int32) (hd : ck_Dn dn up) (B : Nat → Nat → Bool) (hB : ck_Cu cu B) (hp : post (ck_en (ck_pk (ck_lB B) (ck_cd up B f) 5))) : ∀ d i, i + d = 5 → wY_nextServer_4 post (nI f) wt dn ex ln ce cu (d + 1) (ck_en (ck_pk (ck_lB B) (ck_cd up B f) i)) (nI i) := by
  intro d
  induction d with
  | zero =>
    intro i hi
    obtain rfl : i = 5 := hi
    exact br_t ck_55 hp
  | succ d ih =>
    intro i hi
    have hi5 : i < 5 := by omega
    have ih' := ih (i + 1) (by omega)
    have hN : ck_cd up B f i = false → ∀ y : Int32, y = nI i + 1 → wY_nextServer_4 post (nI f) wt dn ex ln ce cu (d + 1) (ck_en (ck_pk (ck_lB B) (ck_cd up B f) i)) y := by
      intro hc y ey
      subst ey
      rw [ck_pk_f hc] at ih'
      rw [nI_1 i]
      exact ih'
    refine br_f (ck_le5 hi5) ⟨vp_in_nI hi5 (by omega), ?_⟩
    rw [ck_cl (f := i) (by omega), hd i hi5]
    cases hu : bt up i
    · have hc : ck_cd up B f i = false := by unfold ck_cd; rw [hu]; rfl
      exact br_f (by decide) (br_t rfl (hN hc))
    · refine br_t (by decide) ⟨ck_i5 hf hi5, ?_⟩
      rw [ck_c5 hf hi5, hB f hf i hi5]
      cases hb : B f i
      · have hc : ck_cd up B f i = true := by unfold ck_cd; rw [hu, hb]; rfl
        refine br_t rfl (br_f (by decide) ?_)
        cases hq : ck_pk (ck_lB B) (ck_cd up B f) i with
        | none =>
          rw [ck_pk_n hc hq] at ih'
          refine br_t (by decide) (fun y ey => ?_)
          subst ey
          rw [nI_1 i]
          exact ih'
        | some b =>
          have hb2 := ck_pk_in hq
          have l1 := ck_lB_le B b
          have l2 := ck_lB_le B i
          refine br_f (nI_pos (by omega)) (ck_yld i hi5 wt dn ex ln ce cu B hB (ck_yld b (by omega) wt dn ex ln ce cu B hB (pk_le (ck_lB B b) (ck_lB B i) (fun hl y ey => ?_) (fun hl y ey => ?_))))
          · rw [ck_pk_g hc hq hl] at ih'
            subst ey
            rw [nI_1 i]
            exact ih'
          · rw [ck_pk_l hc hq hl] at ih'
            subst ey
            rw [nI_1 i]
            exact ih'
      · have hc : ck_cd up B f i = false := by unfold ck_cd; rw [hu, hb]; rfl
        exact br_f (by decide) (br_t rfl (hN hc))
theorem ck_ns {post : Int32 → Prop} (f : Nat) (hf : f < 4) (wt : Int32) (dn ex ln ce cu : Nat → Int32) (up : Int32) (hd : ck_Dn dn up) (B : Nat → Nat → Bool) (hB : ck_Cu cu B) (hp : post (ck_en (ck_pk (ck_lB B) (ck_cd up B f) 5))) : wpY_nextServer post (wt, dn, ex, ln, ce, cu) (nI f) := ⟨6, ck_nsL post f hf wt dn ex ln ce cu up hd B hB hp 5 0 rfl⟩
/-! the bits of a file and the row of the reference -/
theorem ck_Cu_c {cu : Nat → Int32} {B B' : Nat → Nat → Bool} (h : ck_Cu cu B) (e : ∀ g, g < 4 → ∀ s, s < 5 → B' g s = B g s) : ck_Cu cu B' := fun g hg s hs => by rw [e g hg s hs]; exact h g hg s hs
theorem ck_Cu_u {cu : Nat → Int32} {B B' : Nat → Nat → Bool} {f t : Nat} {b : Bool} (h : ck_Cu cu B) (ht : t < 5) (e1 : B' f t = b) (e2 : ∀ g, g < 4 → ∀ s, s < 5 → ¬ (g = f ∧ s = t) → B' g s = B g s) : ck_Cu (upd cu (f * 5 + t) (ck_in b)) B' := by
  intro g hg s hs
  by_cases e : g = f ∧ s = t
  · obtain ⟨rfl, rfl⟩ := e
    rw [pk_us, e1]
  · rw [pk_un (by omega), e2 g hg s hs e]
    exact h g hg s hs
def ck_ov (f i : Nat) (b : Nat → Bool) (B : Nat → Nat → Bool) : Nat → Nat → Bool := fun g s => if g = f ∧ s < i then b s else B g s
theorem ck_ov_0 {cu : Nat → Int32} {B : Nat → Nat → Bool} (f : Nat) (b : Nat → Bool) (h : ck_Cu cu B) : ck_Cu cu (ck_ov f 0 b B) := ck_Cu_c h (fun g _ s _ => if_neg (by omega))
theorem ck_ov_s {cu : Nat → Int32} {B : Nat → Nat → Bool} {f i : Nat} {b : Nat → Bool} (hi : i < 5) (h : ck_Cu cu (ck_ov f i b B)) : ck_Cu (upd cu (f * 5 + i) (ck_in (b i))) (ck_ov f (i + 1) b B) := by
  refine ck_Cu_u h hi (if_pos ⟨rfl, by omega⟩) (fun g hg s hs n => ?_)
  unfold ck_ov
  by_cases z : g = f ∧ s < i
  · rw [if_pos z, if_pos ⟨z.1, by omega⟩]
  · rw [if_neg z, if_neg (by omega)]
theorem ck_ov_k {cu : Nat → Int32} {B : Nat → Nat → Bool} {f i : Nat} {b : Nat → Bool} (hb : b i = B f i) (h : ck_Cu cu (ck_ov f i b B)) : ck_Cu cu (ck_ov f (i + 1) b B) := by
  refine ck_Cu_c h (fun g hg s hs => ?_)
  unfold ck_ov
  by_cases z : g = f ∧ s < i
  · rw [if_pos z, if_pos ⟨z.1, by omega⟩]
  · by_cases z2 : g = f ∧ s = i
    · obtain ⟨rfl, rfl⟩ := z2
      rw [if_neg z, if_pos ⟨rfl, by omega⟩, hb]
    · rw [if_neg z, if_neg (by omega)]
theorem ck_ov_5 {cu cs : Nat → Int32} {f : Nat} {b : Nat → Bool} {x : Int32} (hb : ∀ s, s < 5 → bt x s = b s) (h : ck_Cu cu (ck_ov f 5 b (ck_B cs))) : ck_Cu cu (ck_B (upd cs f x)) := by
  refine ck_Cu_c h (fun g hg s hs => ?_)
  show bt (upd cs f x g) s = ck_ov f 5 b (ck_B cs) g s
  unfold ck_ov
  by_cases e : g = f
  · subst e
    rw [pk_us, if_pos ⟨rfl, hs⟩, hb s hs]
  · rw [pk_un e, if_neg (fun z => e z.1)]
theorem ck_hi_u {cs : Nat → Int32} {f : Nat} {x : Int32} (h : ∀ g, g < 4 → ck_Hi (cs g)) (hx : ck_Hi x) : ∀ g, g < 4 → ck_Hi (upd cs f x g) := by
  intro g hg
  by_cases e : g = f
  · subst e; rw [pk_us]; exact hx
  · rw [pk_un e]; exact h g hg
def ck_H (cs : Nat → Int32) (up : Int32) (f : Nat) : Nat := ck_cnt (fun s => bt (cs f) s && bt up s) 5
theorem ck_H_le (cs : Nat → Int32) (up : Int32) (f : Nat) : ck_H cs up f ≤ 5 := ck_cnt_le _ 5
theorem ck_av {cs : Nat → Int32} {up : Int32} {f : Nat} (hu : ck_Hi (cs f)) : (cs f &&& up) = 0 ↔ ck_H cs up f = 0 := by
  unfold ck_H
  rw [ck_cnt_0]
  constructor
  · intro h i _
    show (bt (cs f) i && bt up i) = false
    rw [← b_and, h, b_0]
  · intro h
    refine ck_ext (ck_hi_and hu) ck_hi_0 (fun i hi => ?_)
    rw [b_and, b_0]
    exact h i hi
end
section
/-! addMissingReplicas against fill, round by round of the reference -/
theorem ck_flL (c : Nat) (hc : c ≤ 3) (up : Int32) (ex ln ce dn : Nat → Int32) (hd : ck_Dn dn up) (f : Nat) (hf : f < 4) (h0 : Nat) (hh0 : h0 ≤ 5) :
    ∀ e k, k + e = 5 → ∀ (cs cu : Nat → Int32) (made : Nat), ck_Cu cu (ck_B cs) → (∀ g, g < 4 → ck_Hi (cs g)) → ck_H cs up f = made + h0 →
    (c ≤ ck_H cs up f + e ∨ ck_pk (ck_lB (ck_B cs)) (ck_cd up (ck_B cs) f) 5 = none) →
    ∃ (r : Int32) (cs' cu' : Nat → Int32), ck_Cu cu' (ck_B cs') ∧ (∀ g, g < 4 → ck_Hi (cs' g)) ∧ (∀ g, g ≠ f → cs' g = cs g) ∧
      (∀ post : Int32 → SX → Prop, post r (nI c, up, ex, ln, cs', ce) → ∃ n, wX_addMissingReplicas_22 post (nI f) (nI c - nI h0) (nI c) up n (nI made) ex ln cs ce) ∧
      (∀ post : Int32 → SY → Prop, post r (nI c, dn, ex, ln, ce, cu') → wY_fill_4 post (nI f) (nI c) (e + 1) (nI made) (nI k) dn ex ln ce cu) := by
  intro e
  induction e with
  | zero =>
    intro k hk cs cu made hB hh hH hst
    obtain rfl : k = 5 := hk
    have hle := ck_H_le cs up f
    refine ⟨nI made, cs, cu, hB, hh, fun _ _ => rfl, fun post hp => ?_, fun post hp => br_t ck_55 hp⟩
    by_cases hcm : c ≤ made + h0
    · exact ⟨1, br_t ((ck_sle (by omega) (by omega) (by omega)).mpr hcm) hp⟩
    · have hn : ck_pk (ck_lB (ck_B cs)) (ck_cd up (ck_B cs) f) 5 = none := by
        rcases hst with h | h
        · omega
        · exact h
      refine ⟨1, br_f (fun z => hcm ((ck_sle (by omega) (by omega) (by omega)).mp z)) ⟨vp_in_nI hf (by omega), ck_fo _ (ck_cd up (ck_B cs) f) (fun s hs => ?_) _ _ _ _ _ _ ?_⟩⟩
      · rw [ck_cl (f := f) (by omega)]
        exact ck_not up (cs f) s (by omega)
      · rw [hn]
        exact br_t rfl hp
  | succ e ih =>
    intro k hk cs cu made hB hh hH hst
    have hle := ck_H_le cs up f
    have hk5 : k < 5 := by omega
    have hns : ∀ (post : Int32 → Prop), post (ck_en (ck_pk (ck_lB (ck_B cs)) (ck_cd up (ck_B cs) f) 5)) → wpY_nextServer post (nI c, dn, ex, ln, ce, cu) (nI f) := fun post hp => ck_ns f hf (nI c) dn ex ln ce cu up hd (ck_B cs) hB hp
    have hho : ∀ (post : Int32 → Prop), post (nI (ck_H cs up f)) → wpY_holders post (nI c, dn, ex, ln, ce, cu) (nI f) 1 := fun post hp => ck_ho f hf 1 (nI c) dn ex ln ce cu up hd (ck_B cs) hB (fun s => bt (cs f) s && bt up s) (fun s _ => rfl) hp
    cases hq : ck_pk (ck_lB (ck_B cs)) (ck_cd up (ck_B cs) f) 5 with
    | none =>
      obtain ⟨r, cs', cu', g1, g2, g3, g4, g5⟩ := ih (k + 1) (by omega) cs cu made hB hh hH (Or.inr hq)
      refine ⟨r, cs', cu', g1, g2, g3, g4, fun post hp => br_f (ck_le5 hk5) (hns _ ?_)⟩
      rw [hq]
      refine br_t (by decide) (fun y ey => ?_)
      subst ey
      rw [nI_1 k]
      exact g5 post hp
    | some s =>
      obtain ⟨hs5, hcd⟩ := ck_pk_in hq
      by_cases hcm : c ≤ ck_H cs up f
      · obtain ⟨r, cs', cu', g1, g2, g3, g4, g5⟩ := ih (k + 1) (by omega) cs cu made hB hh hH (Or.inl (by omega))
        refine ⟨r, cs', cu', g1, g2, g3, g4, fun post hp => br_f (ck_le5 hk5) (hns _ ?_)⟩
        rw [hq]
        refine br_f (nI_pos (by omega)) (hho _ (br_t (nI_le hcm (by omega)) (fun y ey => ?_)))
        subst ey
        rw [nI_1 k]
        exact g5 post hp
      · have hcd2 : bt up s = true ∧ bt (cs f) s = false := by
          unfold ck_cd at hcd
          simpa using hcd
        have hB' : ck_Cu (upd cu (f * 5 + s) 1) (ck_B (upd cs f (cs f ||| ((1 : Int32) <<< (nI s &&& 31))))) := by
          refine ck_Cu_u (b := true) hB hs5 ?_ (fun g hg t ht n => ?_)
          · show bt (upd cs f _ f) s = true
            rw [pk_us, ck_set _ s (by omega)]
            simp
          · show bt (upd cs f _ g) t = bt (cs g) t
            by_cases e1 : g = f
            · subst e1
              have e2 : ¬ t = s := fun z => n ⟨rfl, z⟩
              rw [pk_us, ck_set _ s (by omega)]
              simp [e2]
            · rw [pk_un e1]
        have hh' := ck_hi_u (f := f) hh (ck_hi_set hs5 (hh f hf))
        have hH' : ck_H (upd cs f (cs f ||| ((1 : Int32) <<< (nI s &&& 31)))) up f = ck_H cs up f + 1 := by
          unfold ck_H
          refine ck_cnt_s (s := s) (fun t ht => ?_) hs5 (by rw [hcd2.2]; rfl)
          rw [pk_us, ck_set _ s (by omega)]
          by_cases e2 : t = s
          · subst e2; simp [hcd2.1]
          · simp [e2]
        have hst2 : c ≤ ck_H cs up f + (e + 1) := by
          rcases hst with h | h
          · exact h
          · rw [hq] at h; exact nomatch h
        obtain ⟨r, cs', cu', g1, g2, g3, g4, g5⟩ := ih (k + 1) (by omega) _ _ (made + 1) hB' hh' (by omega) (Or.inl (by omega))
        refine ⟨r, cs', cu', g1, g2, fun g hg => by rw [g3 g hg, pk_un hg], fun post hp => ?_, fun post hp => br_f (ck_le5 hk5) (hns _ ?_)⟩
        · obtain ⟨n, hn⟩ := g4 post hp
          refine ⟨n + 1, br_f (fun z => hcm (by rw [hH]; exact (ck_sle (by omega) (by omega) (by omega)).mp z)) ⟨vp_in_nI hf (by omega), ck_fo _ (ck_cd up (ck_B cs) f) (fun s hs => ?_) _ _ _ _ _ _ ?_⟩⟩
          · rw [ck_cl (f := f) (by omega)]
            exact ck_not up (cs f) s (by omega)
          · rw [hq]
            refine br_f (ck_ne1 (by omega)) ⟨vp_in_nI hf (by omega), vp_in_nI hf (by omega), fun a ea y ey => ?_⟩
            subst ea ey
            rw [ck_cl (f := f) (by omega), nI_1 made]
            exact hn
        · rw [hq]
          refine br_f (nI_pos (by omega)) (hho _ (br_f (nI_ge (by omega) (by omega)) ⟨ck_i5 hf hs5, fun a ea y ey z ez => ?_⟩))
          subst ea ey ez
          rw [show (nI f * 5 + ck_en (some s)).toNatClampNeg = f * 5 + s from ck_c5 hf hs5, ck_nar1, nI_1 made, nI_1 k]
          exact g5 post hp
theorem ck_fl (c : Nat) (hc : c ≤ 3) (up : Int32) (ex ln ce dn : Nat → Int32) (hd : ck_Dn dn up) (f : Nat) (hf : f < 4) (cs cu : Nat → Int32) (hB : ck_Cu cu (ck_B cs)) (hh : ∀ g, g < 4 → ck_Hi (cs g)) :
    ∃ (r : Int32) (cs' cu' : Nat → Int32), ck_Cu cu' (ck_B cs') ∧ (∀ g, g < 4 → ck_Hi (cs' g)) ∧ (∀ g, g ≠ f → cs' g = cs g) ∧
      (∀ post : Int32 → SX → Prop, post r (nI c, up, ex, ln, cs', ce) → wpX_addMissingReplicas post (nI c, up, ex, ln, cs, ce) (nI f)) ∧
      (∀ post : Int32 → SY → Prop, post r (nI c, dn, ex, ln, ce, cu') → wpY_fill post (nI c, dn, ex, ln, ce, cu) (nI f)) := by
  have hle := ck_H_le cs up f
  obtain ⟨r, cs', cu', g1, g2, g3, g4, g5⟩ := ck_flL c hc up ex ln ce dn hd f hf (ck_H cs up f) hle 5 0 rfl cs cu 0 hB hh (by omega) (Or.inl (by omega))
  refine ⟨r, cs', cu', g1, g2, g3, fun post hp => ⟨vp_in_nI hf (by omega), ?_⟩, fun post hp => ⟨6, g5 post hp⟩⟩
  rw [ck_cl (f := f) (by omega)]
  refine ck_cs _ (fun y ey => ?_)
  subst ey
  have e : ck_cnt (bt (cs f &&& up)) 5 = ck_H cs up f := ck_cnt_c (fun i _ => b_and _ _ _)
  rw [e]
  exact g4 post hp
end
section
/-! numbers in range, refusals -/
theorem ck_xf_b {post : Int32 → Prop} {x : Int32} (h : x < 0 ∨ 4 ≤ x) (hp : post 0) : wpX_isFileNumber post x := br_c (fun _ => hp) (fun n => br_t (h.resolve_left n) hp)
theorem ck_xf {post : Int32 → Prop} {f : Nat} (h : f < 4) (hp : post 1) : wpX_isFileNumber post (nI f) := br_f (nI_pos (by omega)) (br_f (ck_le4 h) hp)
theorem ck_xv_b {post : Int32 → Prop} {x : Int32} (h : x < 0 ∨ 5 ≤ x) (hp : post 0) : wpX_isServerNumber post x := br_c (fun _ => hp) (fun n => br_t (h.resolve_left n) hp)
theorem ck_xv {post : Int32 → Prop} {f : Nat} (h : f < 5) (hp : post 1) : wpX_isServerNumber post (nI f) := br_f (nI_pos (by omega)) (br_f (ck_le5 h) hp)
theorem ck_xc_b {post : Int32 → Prop} {x : Int32} (h : x < 0 ∨ 6 ≤ x) (hp : post 0) : wpX_isCellNumber post x := br_c (fun _ => hp) (fun n => br_t (h.resolve_left n) hp)
theorem ck_xc {post : Int32 → Prop} {f : Nat} (h : f < 6) (hp : post 1) : wpX_isCellNumber post (nI f) := br_f (nI_pos (by omega)) (br_f (ck_le6 h) hp)
theorem ck_yf_b {post : Int32 → Prop} {x : Int32} (wt : Int32) (dn ex ln ce cu : Nat → Int32) (h : x < 0 ∨ 4 ≤ x) (hp : post 0) : wpY_isFile post (wt, dn, ex, ln, ce, cu) x := br_c (fun _ => hp) (fun n => br_t (h.resolve_left n) hp)
theorem ck_yf {post : Int32 → Prop} {f : Nat} (wt : Int32) (dn ex ln ce cu : Nat → Int32) (h : f < 4) (hp : post 1) : wpY_isFile post (wt, dn, ex, ln, ce, cu) (nI f) := br_f (nI_pos (by omega)) (br_f (ck_le4 h) hp)
theorem ck_yv_b {post : Int32 → Prop} {x : Int32} (wt : Int32) (dn ex ln ce cu : Nat → Int32) (h : x < 0 ∨ 5 ≤ x) (hp : post 0) : wpY_isServer post (wt, dn, ex, ln, ce, cu) x := br_c (fun _ => hp) (fun n => br_t (h.resolve_left n) hp)
theorem ck_yv {post : Int32 → Prop} {f : Nat} (wt : Int32) (dn ex ln ce cu : Nat → Int32) (h : f < 5) (hp : post 1) : wpY_isServer post (wt, dn, ex, ln, ce, cu) (nI f) := br_f (nI_pos (by omega)) (br_f (ck_le5 h) hp)
theorem ck_xe_b {post : Int32 → Prop} {x : Int32} (cp up : Int32) (ex ln cs ce : Nat → Int32) (h : x < 0 ∨ 4 ≤ x) (hp : post (-1)) : wpX_refusalUnlessExists post (cp, up, ex, ln, cs, ce) x := by
  unfold wpX_refusalUnlessExists
  dsimp only
  exact ck_xf_b h (br_t rfl hp)
theorem ck_xe_n {post : Int32 → Prop} {f : Nat} (cp up : Int32) (ex ln cs ce : Nat → Int32) (hf : f < 4) (he : ex f = 0) (hp : post (-3)) : wpX_refusalUnlessExists post (cp, up, ex, ln, cs, ce) (nI f) := by
  unfold wpX_refusalUnlessExists
  dsimp only
  refine ck_xf hf (br_f (by decide) ⟨vp_in_nI hf (by omega), ?_⟩)
  rw [ck_cl (f := f) (by omega)]
  exact br_t he hp
theorem ck_xe {post : Int32 → Prop} {f : Nat} (cp up : Int32) (ex ln cs ce : Nat → Int32) (hf : f < 4) (he : ¬ ex f = 0) (hp : post 0) : wpX_refusalUnlessExists post (cp, up, ex, ln, cs, ce) (nI f) := by
  unfold wpX_refusalUnlessExists
  dsimp only
  refine ck_xf hf (br_f (by decide) ⟨vp_in_nI hf (by omega), ?_⟩)
  rw [ck_cl (f := f) (by omega)]
  exact br_f he hp
theorem ck_xi {post : Int32 → Prop} {f : Nat} (cp up : Int32) (ex ln cs ce : Nat → Int32) (hf : f < 4) (h0 : (cs f &&& up) = 0 → post 0) (h1 : ¬ (cs f &&& up) = 0 → post 1) : wpX_isAvailable post (cp, up, ex, ln, cs, ce) (nI f) := by
  refine ⟨vp_in_nI hf (by omega), ?_⟩
  rw [ck_cl (f := f) (by omega)]
  exact br_c h0 h1
theorem ck_xa_b {post : Int32 → Prop} {x : Int32} (cp up : Int32) (ex ln cs ce : Nat → Int32) (h : x < 0 ∨ 4 ≤ x) (hp : post (-1)) : wpX_refusalUnlessAvailable post (cp, up, ex, ln, cs, ce) x := by
  unfold wpX_refusalUnlessAvailable
  dsimp only
  exact ck_xe_b cp up ex ln cs ce h (br_f (by decide) hp)
theorem ck_xa_n {post : Int32 → Prop} {f : Nat} (cp up : Int32) (ex ln cs ce : Nat → Int32) (hf : f < 4) (he : ex f = 0) (hp : post (-3)) : wpX_refusalUnlessAvailable post (cp, up, ex, ln, cs, ce) (nI f) := by
  unfold wpX_refusalUnlessAvailable
  dsimp only
  exact ck_xe_n cp up ex ln cs ce hf he (br_f (by decide) hp)
theorem ck_xa_u {post : Int32 → Prop} {f : Nat} (cp up : Int32) (ex ln cs ce : Nat → Int32) (hf : f < 4) (he : ¬ ex f = 0) (ha : (cs f &&& up) = 0) (hp : post (-5)) : wpX_refusalUnlessAvailable post (cp, up, ex, ln, cs, ce) (nI f) := by
  unfold wpX_refusalUnlessAvailable
  dsimp only
  exact ck_xe cp up ex ln cs ce hf he (br_t rfl (ck_xi cp up ex ln cs ce hf (fun _ => br_t rfl hp) (fun z => absurd ha z)))
theorem ck_xa {post : Int32 → Prop} {f : Nat} (cp up : Int32) (ex ln cs ce : Nat → Int32) (hf : f < 4) (he : ¬ ex f = 0) (ha : ¬ (cs f &&& up) = 0) (hp : post 0) : wpX_refusalUnlessAvailable post (cp, up, ex, ln, cs, ce) (nI f) := by
  unfold wpX_refusalUnlessAvailable
  dsimp only
  exact ck_xe cp up ex ln cs ce hf he (br_t rfl (ck_xi cp up ex ln cs ce hf (fun z => absurd z ha) (fun _ => br_f (by decide) hp)))
theorem ck_yr_b {post : Int32 → Prop} {x : Int32} (wt : Int32) (dn ex ln ce cu : Nat → Int32) (h : x < 0 ∨ 4 ≤ x) (hp : post (-1)) : wpY_refusal post (wt, dn, ex, ln, ce, cu) x := by
  unfold wpY_refusal
  dsimp only
  exact ck_yf_b wt dn ex ln ce cu h (br_t rfl hp)
theorem ck_yr_n {post : Int32 → Prop} {f : Nat} (wt : Int32) (dn ex ln ce cu : Nat → Int32) (hf : f < 4) (he : ex f = 0) (hp : post (-3)) : wpY_refusal post (wt, dn, ex, ln, ce, cu) (nI f) := by
  unfold wpY_refusal
  dsimp only
  refine ck_yf wt dn ex ln ce cu hf (br_f (by decide) ⟨vp_in_nI hf (by omega), ?_⟩)
  rw [ck_cl (f := f) (by omega)]
  exact br_t he hp
theorem ck_yr_h {post : Int32 → Prop} {f : Nat} (wt : Int32) (dn ex ln ce cu : Nat → Int32) (hf : f < 4) (he : ¬ ex f = 0) (up : Int32) (hd : ck_Dn dn up) (cs : Nat → Int32) (hB : ck_Cu cu (ck_B cs)) (hh : ck_Hi (cs f)) (h0 : (cs f &&& up) = 0 → post (-5)) (h1 : ¬ (cs f &&& up) = 0 → post 0) : wpY_refusal post (wt, dn, ex, ln, ce, cu) (nI f) := by
  unfold wpY_refusal
  dsimp only
  refine ck_yf wt dn ex ln ce cu hf (br_f (by decide) ⟨vp_in_nI hf (by omega), ?_⟩)
  rw [ck_cl (f := f) (by omega)]
  refine br_f he (ck_ho f hf 1 wt dn ex ln ce cu up hd (ck_B cs) hB (fun s => bt (cs f) s && bt up s) (fun s _ => rfl) ?_)
  have hl := ck_H_le cs up f
  exact pk_eq (ck_H cs up f) 0 (fun z => h0 ((ck_av hh).mpr z)) (fun z => h1 (fun y => z ((ck_av hh).mp y))) (hx := rfl) (hy := rfl)
/-- the two refusals meet -/
theorem ck_ref (cp up : Int32) (ex ln cs ce dn cu : Nat → Int32) (wt : Int32) (hd : ck_Dn dn up) (hB : ck_Cu cu (ck_B cs)) (hh : ∀ g, g < 4 → ck_Hi (cs g)) (x : Int32) :
    (∃ r : Int32, ¬ r = 0 ∧ ¬ 0 ≤ r ∧ (∀ post : Int32 → Prop, post r → wpX_refusalUnlessAvailable post (cp, up, ex, ln, cs, ce) x) ∧ (∀ post : Int32 → Prop, post r → wpY_refusal post (wt, dn, ex, ln, ce, cu) x)) ∨
    ∃ f : Nat, f < 4 ∧ x = nI f ∧ ¬ ex f = 0 ∧ ¬ (cs f &&& up) = 0 := by
  rcases ck_fn x with h | ⟨f, hf, rfl⟩
  · exact Or.inl ⟨-1, by decide, by decide, fun _ hp => ck_xa_b cp up ex ln cs ce h hp, fun _ hp => ck_yr_b wt dn ex ln ce cu h hp⟩
  · by_cases he : ex f = 0
    · exact Or.inl ⟨-3, by decide, by decide, fun _ hp => ck_xa_n cp up ex ln cs ce hf he hp, fun _ hp => ck_yr_n wt dn ex ln ce cu hf he hp⟩
    · by_cases ha : (cs f &&& up) = 0
      · exact Or.inl ⟨-5, by decide, by decide, fun _ hp => ck_xa_u cp up ex ln cs ce hf he ha hp, fun _ hp => ck_yr_h wt dn ex ln ce cu hf he up hd cs hB (hh f hf) (fun _ => hp) (fun z => absurd ha z)⟩
      · exact Or.inr ⟨f, hf, rfl, he, ha⟩
theorem ck_yr {post : Int32 → Prop} {f : Nat} (wt : Int32) (dn ex ln ce cu : Nat → Int32) (hf : f < 4) (he : ¬ ex f = 0) (up : Int32) (hd : ck_Dn dn up) (cs : Nat → Int32) (hB : ck_Cu cu (ck_B cs)) (hh : ck_Hi (cs f)) (ha : ¬ (cs f &&& up) = 0) (hp : post 0) : wpY_refusal post (wt, dn, ex, ln, ce, cu) (nI f) := ck_yr_h wt dn ex ln ce cu hf he up hd cs hB hh (fun z => absurd z ha) (fun _ => hp)
/-! store and write -/
def ck_ln (ln : Nat → Int32) (f l c : Nat) : Nat → Int32 := if l ≤ c then upd ln f (nI (c + 1)) else ln
theorem ck_xs {post : SX → Prop} {f c l : Nat} (v cp up : Int32) (ex ln cs ce : Nat → Int32) (hf : f < 4) (hc : c < 6) (hl : ln f = nI l) (hl6 : l ≤ 6) (hp : post (cp, up, ex, ck_ln ln f l c, upd cs f (cs f &&& up), upd ce (f * 6 + c) v)) : wpX_store post (cp, up, ex, ln, cs, ce) (nI f) (nI c) v := by
  refine ⟨vp_in_nI hf (by omega), vp_in_nI hf (by omega), fun a ea => ⟨ck_i6 hf hc, fun b eb => ⟨vp_in_nI hf (by omega), ?_⟩⟩⟩
  subst ea eb
  rw [ck_c6 hf hc, ck_cl (f := f) (by omega), hl]
  unfold ck_ln at hp
  refine pk_lt c l (fun h => ?_) (fun h => ⟨vp_in_nI hf (by omega), fun d ed => ?_⟩)
  · rw [if_neg (by omega)] at hp
    exact hp
  · subst ed
    rw [if_pos h] at hp
    rw [nI_1 c]
    exact hp
theorem ck_ywL (post : Int32 → SY → Prop) (f : Nat) (hf : f < 4) (wt : Int32) (dn ex ln ce : Nat → Int32) (up : Int32) (hd : ck_Dn dn up) (cs : Nat → Int32) (K : ∀ cu' : Nat → Int32, ck_Cu cu' (ck_B (upd cs f (cs f &&& up))) → post (nI (ck_cnt (bt (cs f &&& up)) 5)) (wt, dn, ex, ln, ce, cu')) : ∀ d i, i + d = 5 → ∀ cu : Nat → Int32, ck_Cu cu (ck_ov f i (fun s => bt (cs f) s && bt up s) (ck_B cs)) → wY_write_63 post (nI f) wt (d + 1) (nI i) dn ex ln ce cu := by
  intro d
  induction d with
  | zero =>
    intro i hi cu hcu
    obtain rfl : i = 5 := hi
    have hB := ck_ov_5 (x := cs f &&& up) (fun s _ => b_and (cs f) up s) hcu
    refine br_t ck_55 (ck_ho f hf 0 wt dn ex ln ce cu up hd _ hB (bt (cs f &&& up)) (fun s _ => ?_) (K cu hB))
    show _ = (bt (upd cs f (cs f &&& up) f) s && _)
    rw [pk_us]
    simp
  | succ d ih =>
    intro i hi cu hcu
    have hi5 : i < 5 := by omega
    refine br_f (ck_le5 hi5) ⟨vp_in_nI hi5 (by omega), ?_⟩
    rw [ck_cl (f := i) (by omega), hd i hi5]
    cases hu : bt up i
    · refine br_f (by decide) ⟨ck_i5 hf hi5, fun a ea y ey => ?_⟩
      subst ea ey
      rw [ck_c5 hf hi5, ck_nar0, nI_1 i]
      have t := ck_ov_s hi5 hcu
      rw [hu, Bool.and_false] at t
      exact ih (i + 1) (by omega) _ t
    · refine br_t (by decide) (fun y ey => ?_)
      subst ey
      rw [nI_1 i]
      refine ih (i + 1) (by omega) _ (ck_ov_k ?_ hcu)
      rw [hu, Bool.and_true]
theorem ck_yw {post : Int32 → SY → Prop} {f c l : Nat} (v wt : Int32) (dn ex ln ce cu : Nat → Int32) (hf : f < 4) (hc : c < 6) (hl : ln f = nI l) (hl6 : l ≤ 6) (up : Int32) (hd : ck_Dn dn up) (cs : Nat → Int32) (hB : ck_Cu cu (ck_B cs)) (hh : ck_Hi (cs f)) (he : ¬ ex f = 0) (ha : ¬ (cs f &&& up) = 0) (K : ∀ cu' : Nat → Int32, ck_Cu cu' (ck_B (upd cs f (cs f &&& up))) → post (nI (ck_cnt (bt (cs f &&& up)) 5)) (wt, dn, ex, ck_ln ln f l c, upd ce (f * 6 + c) v, cu')) : wpY_write post (wt, dn, ex, ln, ce, cu) (nI f) (nI c) v := by
  unfold wpY_write
  dsimp only
  refine ck_yr wt dn ex ln ce cu hf he up hd cs hB hh ha (br_t (by decide) (br_f (nI_pos (by omega)) (br_t (nI_le (b := 5) (by omega) (by decide)) ⟨ck_i6 hf hc, fun a ea => ⟨vp_in_nI hf (by omega), ?_⟩⟩)))
  subst ea
  rw [ck_c6 hf hc, ck_cl (f := f) (by omega), hl, nI_1 c]
  unfold ck_ln at K
  refine pk_le (c + 1) l (fun h => ?_) (fun h => ⟨vp_in_nI hf (by omega), fun d ed => ?_⟩)
  · rw [if_neg (by omega)] at K
    exact ⟨6, ck_ywL post f hf wt dn ex ln _ up hd cs K 5 0 rfl cu (ck_ov_0 f _ hB)⟩
  · subst ed
    rw [if_pos (by omega)] at K
    exact ⟨6, ck_ywL post f hf wt dn ex _ _ up hd cs K 5 0 rfl cu (ck_ov_0 f _ hB)⟩
end
section
/-! create: the cells and the row of the reference -/
def ck_zr (ce : Nat → Int32) (f : Nat) : Nat → Nat → Int32
  | 0 => ce
  | i + 1 => upd (ck_zr ce f i) (f * 6 + i) 0
theorem ck_xzL (post : Int32 → SX → Prop) (f : Nat) (hf : f < 4) (cp up : Int32) (ex ln cs ce : Nat → Int32) (K : wX_create_47 post (nI f) cp up 1 (nI 6) ex ln cs (ck_zr ce f 6)) : ∀ d i, i + d = 6 → wX_create_47 post (nI f) cp up (d + 1) (nI i) ex ln cs (ck_zr ce f i) := by
  intro d
  induction d with
  | zero =>
    intro i hi
    obtain rfl : i = 6 := hi
    exact K
  | succ d ih =>
    intro i hi
    refine br_f (ck_le6 (by omega)) ⟨ck_i6 hf (by omega), fun a ea y ey => ?_⟩
    subst ea ey
    rw [ck_c6 hf (by omega), nI_1 i]
    exact ih (i + 1) (by omega)
theorem ck_yzL (post : Int32 → SY → Prop) (f : Nat) (hf : f < 4) (wt : Int32) (dn ex ln ce cu : Nat → Int32) (K : wY_create_73 post (nI f) wt 1 (nI 6) dn ex ln (ck_zr ce f 6) cu) : ∀ d i, i + d = 6 → wY_create_73 post (nI f) wt (d + 1) (nI i) dn ex ln (ck_zr ce f i) cu := by
  intro d
  induction d with
  | zero =>
    intro i hi
    obtain rfl : i = 6 := hi
    exact K
  | succ d ih =>
    intro i hi
    refine br_f (ck_le6 (by omega)) ⟨ck_i6 hf (by omega), fun a ea y ey => ?_⟩
    subst ea ey
    rw [ck_c6 hf (by omega), nI_1 i]
    exact ih (i + 1) (by omega)
theorem ck_ycL (post : Int32 → SY → Prop) (f : Nat) (hf : f < 4) (wt : Int32) (dn ex ln ce cu : Nat → Int32) (hz : ∀ s, s < 5 → cu (f * 5 + s) = 0) (K : wY_create_24 post (nI f) wt 1 (nI 5) dn ex ln ce cu) : ∀ d i, i + d = 5 → wY_create_24 post (nI f) wt (d + 1) (nI i) dn ex ln ce cu := by
  intro d
  induction d with
  | zero =>
    intro i hi
    obtain rfl : i = 5 := hi
    exact K
  | succ d ih =>
    intro i hi
    have hi5 : i < 5 := by omega
    refine br_f (ck_le5 hi5) ⟨ck_i5 hf hi5, fun a ea y ey => ?_⟩
    subst ea ey
    rw [ck_c5 hf hi5, ck_nar0, ck_us (hz i hi5), nI_1 i]
    exact ih (i + 1) (by omega)
/-! remove -/
theorem ck_yrL (post : Int32 → SY → Prop) (f : Nat) (hf : f < 4) (wt : Int32) (dn ex ln ce cs : Nat → Int32) (K : ∀ cu' : Nat → Int32, ck_Cu cu' (ck_B (upd cs f 0)) → post 0 (wt, dn, ex, ln, ce, cu')) : ∀ d i, i + d = 5 → ∀ cu : Nat → Int32, ck_Cu cu (ck_ov f i (fun _ => false) (ck_B cs)) → wY_remove_31 post (nI f) wt (d + 1) (nI i) dn ex ln ce cu := by
  intro d
  induction d with
  | zero =>
    intro i hi cu hcu
    obtain rfl : i = 5 := hi
    exact br_t ck_55 (K cu (ck_ov_5 (fun s _ => b_0 s) hcu))
  | succ d ih =>
    intro i hi cu hcu
    have hi5 : i < 5 := by omega
    refine br_f (ck_le5 hi5) ⟨ck_i5 hf hi5, fun a ea y ey => ?_⟩
    subst ea ey
    rw [ck_c5 hf hi5, ck_nar0, nI_1 i]
    exact ih (i + 1) (by omega) _ (ck_ov_s hi5 hcu)
/-! snapshot -/
def ck_sc (ce : Nat → Int32) (f t : Nat) : Nat → Nat → Int32
  | 0 => ce
  | i + 1 => upd (ck_sc ce f t i) (t * 6 + i) (ck_sc ce f t i (f * 6 + i))
theorem ck_xsL (post : Int32 → SX → Prop) (f t : Nat) (hf : f < 4) (ht : t < 4) (cp up : Int32) (ex ln cs ce : Nat → Int32) (K : wX_snapshot_84 post (nI f) (nI t) cp up 1 (nI 6) ex ln cs (ck_sc ce f t 6)) : ∀ d i, i + d = 6 → wX_snapshot_84 post (nI f) (nI t) cp up (d + 1) (nI i) ex ln cs (ck_sc ce f t i) := by
  intro d
  induction d with
  | zero =>
    intro i hi
    obtain rfl : i = 6 := hi
    exact K
  | succ d ih =>
    intro i hi
    refine br_f (ck_le6 (by omega)) ⟨ck_i6 hf (by omega), ck_i6 ht (by omega), fun a ea y ey => ?_⟩
    subst ea ey
    rw [ck_c6 hf (by omega), ck_c6 ht (by omega), nI_1 i]
    exact ih (i + 1) (by omega)
theorem ck_ysL (post : Int32 → SY → Prop) (f t : Nat) (hf : f < 4) (ht : t < 4) (wt : Int32) (dn ex ln ce cu : Nat → Int32) (K : wY_snapshot_74 post (nI f) (nI t) wt 1 (nI 6) dn ex ln (ck_sc ce f t 6) cu) : ∀ d i, i + d = 6 → wY_snapshot_74 post (nI f) (nI t) wt (d + 1) (nI i) dn ex ln (ck_sc ce f t i) cu := by
  intro d
  induction d with
  | zero =>
    intro i hi
    obtain rfl : i = 6 := hi
    exact K
  | succ d ih =>
    intro i hi
    refine br_f (ck_le6 (by omega)) ⟨ck_i6 hf (by omega), ck_i6 ht (by omega), fun a ea y ey => ?_⟩
    subst ea ey
    rw [ck_c6 hf (by omega), ck_c6 ht (by omega), nI_1 i]
    exact ih (i + 1) (by omega)
theorem ck_ytL (post : Int32 → SY → Prop) (f t : Nat) (hf : f < 4) (ht : t < 4) (hft : ¬ f = t) (wt : Int32) (dn ex ln ce : Nat → Int32) (up : Int32) (hd : ck_Dn dn up) (cs : Nat → Int32) (K : ∀ cu' : Nat → Int32, ck_Cu cu' (ck_B (upd cs t (cs f))) → post (nI (ck_cnt (bt (cs f)) 5)) (wt, dn, ex, ln, ce, cu')) : ∀ d i, i + d = 5 → ∀ cu : Nat → Int32, ck_Cu cu (ck_ov t i (fun s => bt (cs f) s) (ck_B cs)) → wY_snapshot_110 post (nI f) (nI t) wt (d + 1) (nI i) dn ex ln ce cu := by
  intro d
  induction d with
  | zero =>
    intro i hi cu hcu
    obtain rfl : i = 5 := hi
    have hB := ck_ov_5 (x := cs f) (fun s _ => rfl) hcu
    refine br_t ck_55 (ck_ho t ht 0 wt dn ex ln ce cu up hd _ hB (bt (cs f)) (fun s _ => ?_) (K cu hB))
    show _ = (bt (upd cs t (cs f) t) s && _)
    rw [pk_us]
    simp
  | succ d ih =>
    intro i hi cu hcu
    have hi5 : i < 5 := by omega
    refine br_f (ck_le5 hi5) ⟨ck_i5 hf hi5, ck_i5 ht hi5, fun a ea y ey => ?_⟩
    subst ea ey
    have e : ck_ov t i (fun s => bt (cs f) s) (ck_B cs) f i = bt (cs f) i := if_neg (fun z => hft z.1)
    rw [ck_c5 hf hi5, ck_c5 ht hi5, hcu f hf i hi5, ck_narI, e, nI_1 i]
    exact ih (i + 1) (by omega) _ (ck_ov_s hi5 hcu)
/-! loseDisk -/
def ck_lc (cs : Nat → Int32) (m : Int32) (i : Nat) : Nat → Int32 := fun g => if g < i then cs g &&& m else cs g
theorem ck_lc_s (cs : Nat → Int32) (m : Int32) (i : Nat) : upd (ck_lc cs m i) i (ck_lc cs m i i &&& m) = ck_lc cs m (i + 1) := by
  funext g
  by_cases e : g = i
  · subst e
    rw [pk_us]
    unfold ck_lc
    rw [if_neg (by omega), if_pos (by omega)]
  · rw [pk_un e]
    unfold ck_lc
    by_cases z : g < i
    · rw [if_pos z, if_pos (by omega)]
    · rw [if_neg z, if_neg (by omega)]
theorem ck_xlL (post : Int32 → SX → Prop) (s r cp up : Int32) (ex ln cs ce : Nat → Int32) (hp : post r (cp, up, ex, ln, ck_lc cs (((1 : Int32) <<< (s &&& 31)) ^^^ (-1)) 4, ce)) : ∀ d i, i + d = 4 → wX_loseDisk_17 post s r cp up (d + 1) (nI i) ex ln (ck_lc cs (((1 : Int32) <<< (s &&& 31)) ^^^ (-1)) i) ce := by
  intro d
  induction d with
  | zero =>
    intro i hi
    obtain rfl : i = 4 := hi
    exact br_t ck_44 hp
  | succ d ih =>
    intro i hi
    have hi4 : i < 4 := by omega
    refine br_f (ck_le4 hi4) ⟨vp_in_nI hi4 (by omega), vp_in_nI hi4 (by omega), fun a ea y ey => ?_⟩
    subst ea ey
    rw [ck_cl (f := i) (by omega), ck_lc_s, nI_1 i]
    exact ih (i + 1) (by omega)
def ck_ol (s i : Nat) (B : Nat → Nat → Bool) : Nat → Nat → Bool := fun g t => if t = s ∧ g < i then false else B g t
theorem ck_ylL (post : Int32 → SY → Prop) (s : Nat) (hs : s < 5) (r wt : Int32) (dn ex ln ce : Nat → Int32) (B : Nat → Nat → Bool) (K : ∀ cu' : Nat → Int32, ck_Cu cu' (ck_ol s 4 B) → post r (wt, dn, ex, ln, ce, cu')) : ∀ d i, i + d = 4 → ∀ cu : Nat → Int32, ck_Cu cu (ck_ol s i B) → wY_loseDisk_18 post (nI s) r wt (d + 1) (nI i) dn ex ln ce cu := by
  intro d
  induction d with
  | zero =>
    intro i hi cu hcu
    obtain rfl : i = 4 := hi
    exact br_t ck_44 (K cu hcu)
  | succ d ih =>
    intro i hi cu hcu
    have hi4 : i < 4 := by omega
    refine br_f (ck_le4 hi4) ⟨ck_i5 hi4 hs, fun a ea y ey => ?_⟩
    subst ea ey
    rw [ck_c5 hi4 hs, ck_nar0, nI_1 i]
    refine ih (i + 1) (by omega) _ (ck_Cu_u (b := false) hcu hs (if_pos ⟨rfl, by omega⟩) (fun g hg t ht n => ?_))
    unfold ck_ol
    by_cases z : t = s ∧ g < i
    · rw [if_pos z, if_pos ⟨z.1, by omega⟩]
    · rw [if_neg z, if_neg (by omega)]
/-! replicas -/
theorem ck_ymL (post : Int32 → Prop) (f : Nat) (hf : f < 4) (wt : Int32) (dn ex ln ce cu cs : Nat → Int32) (hB : ck_Cu cu (ck_B cs)) (hh : ck_Hi (cs f)) (hp : post (cs f)) : ∀ d i, i + d = 5 → ∀ x : Int32, (∀ j, bt x j = (decide (j < i) && bt (cs f) j)) → wY_replicas_26 post (nI f) wt dn ex ln ce cu (d + 1) x (nI i) := by
  intro d
  induction d with
  | zero =>
    intro i hi x hx
    obtain rfl : i = 5 := hi
    have e : x = cs f := by
      refine ck_ext (fun j hj => ?_) hh (fun j hj => ?_)
      · rw [hx j, hh j hj, Bool.and_false]
      · rw [hx j, decide_eq_true hj, Bool.true_and]
    subst e
    exact br_t ck_55 hp
  | succ d ih =>
    intro i hi x hx
    have hi5 : i < 5 := by omega
    refine br_f (ck_le5 hi5) ⟨ck_i5 hf hi5, ?_⟩
    rw [ck_c5 hf hi5, hB f hf i hi5]
    cases hb : bt (cs f) i
    · refine br_t (ck_in_f hb) (fun y ey => ?_)
      subst ey
      rw [nI_1 i]
      refine ih (i + 1) (by omega) x (fun j => ?_)
      rw [hx j]
      by_cases e : j = i
      · subst e; rw [hb, Bool.and_false, Bool.and_false]
      · rw [show decide (j < i) = decide (j < i + 1) from decide_eq_decide.mpr (by omega)]
    · refine br_f (ck_in_t hb) (fun y ey z ez => ?_)
      subst ey ez
      rw [nI_1 i]
      refine ih (i + 1) (by omega) _ (fun j => ?_)
      rw [ck_set x i (by omega), hx j]
      by_cases e : j = i
      · subst e; simp [hb]
      · rw [show decide (j < i) = decide (j < i + 1) from decide_eq_decide.mpr (by omega)]
        simp [e]
end
section
/-! heal, file by file -/
theorem ck_heL (c : Nat) (hc : c ≤ 3) (up : Int32) (ex ln ce dn : Nat → Int32) (hd : ck_Dn dn up) : ∀ d i, i + d = 4 → ∀ (cs cu : Nat → Int32) (m : Int32), ck_Cu cu (ck_B cs) → (∀ g, g < 4 → ck_Hi (cs g)) → (∀ g, g < 4 → ex g = 0 → cs g = 0) →
    ∃ (r : Int32) (cs' cu' : Nat → Int32), ck_Cu cu' (ck_B cs') ∧ (∀ g, g < 4 → ck_Hi (cs' g)) ∧ (∀ g, g < 4 → ex g = 0 → cs' g = 0) ∧
      (∀ post : Int32 → SX → Prop, post r (nI c, up, ex, ln, cs', ce) → wX_heal_4 post (d + 1) m (nI i) (nI c) up ex ln cs ce) ∧
      (∀ post : Int32 → SY → Prop, post r (nI c, dn, ex, ln, ce, cu') → wY_heal_4 post (d + 1) m (nI i) (nI c) dn ex ln ce cu) := by
  intro d
  induction d with
  | zero =>
    intro i hi cs cu m hB hh he
    obtain rfl : i = 4 := hi
    exact ⟨m, cs, cu, hB, hh, he, fun _ hp => br_t ck_44 hp, fun _ hp => br_t ck_44 hp⟩
  | succ d ih =>
    intro i hi cs cu m hB hh he
    have hi4 : i < 4 := by omega
    by_cases ha : (cs i &&& up) = 0
    · obtain ⟨r, cs', cu', g1, g2, g3, g4, g5⟩ := ih (i + 1) (by omega) cs cu m hB hh he
      refine ⟨r, cs', cu', g1, g2, g3, fun post hp => br_f (ck_le4 hi4) (ck_xi _ _ _ _ _ _ hi4 (fun _ => br_t rfl (fun y ey => ?_)) (fun z => absurd ha z)), fun post hp => br_f (ck_le4 hi4) ?_⟩
      · subst ey
        rw [nI_1 i]
        exact g4 post hp
      · have hn : ∀ y : Int32, y = nI i + 1 → wY_heal_4 post (d + 1) m y (nI c) dn ex ln ce cu := by
          intro y ey
          subst ey
          rw [nI_1 i]
          exact g5 post hp
        by_cases hx : ex i = 0
        · exact ck_yr_n _ _ _ _ _ _ hi4 hx (br_f (by decide) hn)
        · exact ck_yr_h _ _ _ _ _ _ hi4 hx up hd cs hB (hh i hi4) (fun _ => br_f (by decide) hn) (fun z => absurd ha z)
    · have hx : ¬ ex i = 0 := by
        intro z
        apply ha
        rw [he i hi4 z]
        exact Int32.zero_and
      obtain ⟨q, cs1, cu1, f1, f2, f3, f4, f5⟩ := ck_fl c hc up ex ln ce dn hd i hi4 cs cu hB hh
      have he1 : ∀ g, g < 4 → ex g = 0 → cs1 g = 0 := by
        intro g hg z
        have hgi : g ≠ i := fun w => hx (by rw [← w]; exact z)
        rw [f3 g hgi]
        exact he g hg z
      obtain ⟨r, cs', cu', g1, g2, g3, g4, g5⟩ := ih (i + 1) (by omega) cs1 cu1 (m + q) f1 f2 he1
      refine ⟨r, cs', cu', g1, g2, g3, fun post hp => br_f (ck_le4 hi4) (ck_xi _ _ _ _ _ _ hi4 (fun z => absurd z ha) (fun _ => br_f (by decide) (f4 _ ?_))), fun post hp => br_f (ck_le4 hi4) (ck_yr _ _ _ _ _ _ hi4 hx up hd cs hB (hh i hi4) ha (br_t rfl (f5 _ ?_)))⟩
      · intro y ey z ez
        subst ey ez
        rw [nI_1 i]
        exact g4 post hp
      · intro y ey z ez
        subst ey ez
        rw [nI_1 i]
        exact g5 post hp
/-! what a changed state keeps -/
theorem ck_he_u {ex cs : Nat → Int32} {f : Nat} {a x : Int32} (h : ∀ g, g < 4 → ex g = 0 → cs g = 0) (hx : a = 0 → x = 0) : ∀ g, g < 4 → upd ex f a g = 0 → upd cs f x g = 0 := by
  intro g hg
  by_cases e : g = f
  · subst e; rw [pk_us, pk_us]; exact hx
  · rw [pk_un e, pk_un e]; exact h g hg
theorem ck_he_c {ex cs : Nat → Int32} {f : Nat} {x : Int32} (h : ∀ g, g < 4 → ex g = 0 → cs g = 0) (hx : ¬ ex f = 0) : ∀ g, g < 4 → ex g = 0 → upd cs f x g = 0 := by
  intro g hg z
  by_cases e : g = f
  · subst e; exact absurd z hx
  · rw [pk_un e]; exact h g hg z
theorem ck_hl_u {ln : Nat → Int32} {f l : Nat} {x : Int32} (h : ∀ g, g < 4 → ∃ l, l ≤ 6 ∧ ln g = nI l) (hl : l ≤ 6) (hx : x = nI l) : ∀ g, g < 4 → ∃ l, l ≤ 6 ∧ upd ln f x g = nI l := by
  intro g hg
  by_cases e : g = f
  · subst e; exact ⟨l, hl, by rw [pk_us, hx]⟩
  · rw [pk_un e]; exact h g hg
theorem ck_hl_n {ln : Nat → Int32} {f l c : Nat} (h : ∀ g, g < 4 → ∃ l, l ≤ 6 ∧ ln g = nI l) (hc : c < 6) : ∀ g, g < 4 → ∃ l', l' ≤ 6 ∧ ck_ln ln f l c g = nI l' := by
  unfold ck_ln
  by_cases e : l ≤ c
  · rw [if_pos e]; exact ck_hl_u h (l := c + 1) (by omega) rfl
  · rw [if_neg e]; exact h
theorem ck_dn_c {dn : Nat → Int32} {up : Int32} {s : Nat} (hs : s < 5) (hd : ck_Dn dn up) : ck_Dn (upd dn s 1) (up &&& (((1 : Int32) <<< (nI s &&& 31)) ^^^ (-1))) := by
  intro t ht
  rw [ck_clr up s (by omega)]
  by_cases e : t = s
  · subst e; rw [pk_us]; simp [ck_in]
  · rw [pk_un e, hd t ht]; simp [e]
theorem ck_dn_r {dn : Nat → Int32} {up : Int32} {s : Nat} (hs : s < 5) (hd : ck_Dn dn up) : ck_Dn (upd dn s 0) (up ||| ((1 : Int32) <<< (nI s &&& 31))) := by
  intro t ht
  rw [ck_set up s (by omega)]
  by_cases e : t = s
  · subst e; rw [pk_us]; simp [ck_in]
  · rw [pk_un e, hd t ht]; simp [e]
theorem ck_lc_0 (cs : Nat → Int32) (m : Int32) : ck_lc cs m 0 = cs := funext fun g => if_neg (by omega)
theorem ck_xl {post : Int32 → SX → Prop} (s r cp up : Int32) (ex ln cs ce : Nat → Int32) (hp : post r (cp, up, ex, ln, ck_lc cs (((1 : Int32) <<< (s &&& 31)) ^^^ (-1)) 4, ce)) : ∃ n, wX_loseDisk_17 post s r cp up n 0 ex ln cs ce := by
  have t := ck_xlL post s r cp up ex ln cs ce hp 4 0 rfl
  rw [ck_lc_0] at t
  exact ⟨5, t⟩
theorem ck_ol_4 {cu cs : Nat → Int32} {s : Nat} (hs : s < 5) (h : ck_Cu cu (ck_ol s 4 (ck_B cs))) : ck_Cu cu (ck_B (ck_lc cs (((1 : Int32) <<< (nI s &&& 31)) ^^^ (-1)) 4)) := by
  refine ck_Cu_c h (fun g hg t ht => ?_)
  show bt (ck_lc cs _ 4 g) t = ck_ol s 4 (ck_B cs) g t
  unfold ck_lc ck_ol
  rw [if_pos hg, ck_clr _ s (by omega)]
  by_cases e : t = s
  · rw [if_pos ⟨e, hg⟩]; simp [e]
  · rw [if_neg (fun z => e z.1)]; simp [e]
theorem ck_31 : ∀ i, i < 32 → bt 31 i = decide (i < 5) := by decide +kernel
theorem ck_n5 {x : Int32} (h : 6 ≤ x) : ¬ x ≤ 5 := fun z => absurd (Int32.le_trans h z) (by decide)
end
section
/-- the two states hold the same store: flags, lengths and cells are the same arrays; masks against rows of flags -/
def i_Rel (_ : Nat) (u : SX) (v : SY) : Prop := ∃ (c : Nat) (up : Int32) (ex ln cs ce dn cu : Nat → Int32), u = (nI c, up, ex, ln, cs, ce) ∧ v = (nI c, dn, ex, ln, ce, cu) ∧ 1 ≤ c ∧ c ≤ 3 ∧ ck_Dn dn up ∧ ck_Hi up ∧ ck_Cu cu (ck_B cs) ∧ (∀ g, g < 4 → ck_Hi (cs g)) ∧ (∀ g, g < 4 → ex g = 0 → cs g = 0) ∧ (∀ g, g < 4 → ∃ l, l ≤ 6 ∧ ln g = nI l)
theorem i_up {k : Nat} {u : SX} {v : SY} (h : i_Rel k u v) : i_Rel (k + 4) u v := h
theorem ck_rel0 (c : Nat) (h1 : 1 ≤ c) (h3 : c ≤ 3) : i_Rel 1 (nI c, 31, (fun _ => 0), (fun _ => 0), (fun _ => 0), (fun _ => 0)) (nI c, (fun _ => 0), (fun _ => 0), (fun _ => 0), (fun _ => 0), (fun _ => 0)) := by
  refine ⟨c, 31, _, _, _, _, _, _, rfl, rfl, h1, h3, fun s hs => ?_, fun i hi => ?_, fun g _ s _ => ?_, fun g _ => ck_hi_0, fun _ _ _ => rfl, fun _ _ => ⟨0, by omega, rfl⟩⟩
  · rw [ck_31 s (by omega), decide_eq_true hs]; rfl
  · rcases Nat.lt_or_ge i 32 with h | h
    · rw [ck_31 i h, decide_eq_false (by omega)]
    · exact b_big h
  · show (0 : Int32) = ck_in (bt 0 s)
    rw [b_0]; rfl
theorem i_vc0 (k0 : Int32) : wpX_init (fun u => wpY_init (fun v => i_Rel 1 u v) k0) k0 := by
  unfold wpX_init wpY_init
  refine br_c (fun h1 => br_c (fun h3 => br_t h1 (br_t h3 ?_)) (fun h3 => br_t h1 (br_f h3 (ck_rel0 3 (by omega) (by omega))))) (fun h1 => br_f h1 (ck_rel0 1 (by omega) (by omega)))
  rcases pk_ix k0 (n := 4) (by decide) with h | h | ⟨j, hj, rfl⟩
  · exact absurd h (Int32.not_lt.mpr (Int32.le_trans (by decide) h1))
  · exact absurd (Int32.le_trans h h3) (by decide +kernel)
  · have h : 1 ≤ j := (nI_leI (a := 1) (by omega) (by omega)).mp h1
    exact ck_rel0 j h (by omega)
theorem i_vc_create {k : Nat} {u : SX} {v : SY} (I : i_Rel k u v) (hk : k + 4 ≤ 2049) (v1 : Int32) : wpX_create (fun r u' => wpY_create (fun r' v' => r' = r ∧ i_Rel (k + 4) u' v') v v1) u v1 := by
  obtain ⟨c, up, ex, ln, cs, ce, dn, cu, rfl, rfl, h1, h3, hd, hu, hB, hh, he, hl⟩ := I
  have J : i_Rel (k + 4) (nI c, up, ex, ln, cs, ce) (nI c, dn, ex, ln, ce, cu) := ⟨c, up, ex, ln, cs, ce, dn, cu, rfl, rfl, h1, h3, hd, hu, hB, hh, he, hl⟩
  unfold wpX_create wpY_create
  dsimp only
  rcases ck_fn v1 with h | ⟨f, hf, rfl⟩
  · exact ck_xf_b h (br_t rfl (ck_yf_b _ _ _ _ _ _ h (br_t rfl ⟨rfl, J⟩)))
  have ef : (nI f).toNatClampNeg = f := ck_cl (by omega)
  have vf : vp_in (nI f) 4 := vp_in_nI hf (by omega)
  simp only [ef, ck_nar1]
  refine ck_xf hf (br_f (by decide) ⟨vf, ?_⟩)
  by_cases hx : ex f = 0
  · have hcs := he f hf hx
    have hz : ∀ s, s < 5 → cu (f * 5 + s) = 0 := by
      intro s hs
      rw [hB f hf s hs]
      refine ck_in_f ?_
      show bt (cs f) s = false
      rw [hcs, b_0]
    refine br_t hx (br_c (fun h0 => ?_) (fun h0 => ⟨vf, fun a ea => ⟨vf, fun b eb => ?_⟩⟩))
    · have hn : ck_pk (ck_lB (ck_B cs)) (ck_cd up (ck_B cs) f) 5 = none := ck_pk_0.mpr (fun i _ => by unfold ck_cd; rw [h0, b_0]; rfl)
      refine ck_yf _ _ _ _ _ _ hf (br_f (by decide) ⟨vf, br_t hx ⟨6, ck_ycL _ f hf _ _ _ _ _ _ hz ?_ 5 0 rfl⟩⟩)
      refine br_t ck_55 (ck_ns f hf _ dn ex ln ce cu up hd (ck_B cs) hB ?_)
      rw [hn]
      exact br_f (by decide) ⟨rfl, J⟩
    · subst ea eb
      obtain ⟨r, cs', cu', g1, g2, g3, g4, g5⟩ := ck_fl c h3 up (upd ex f 1) (upd ln f 0) (ck_zr ce f 6) dn hd f hf cs cu hB hh
      have hn : ∃ b, ck_pk (ck_lB (ck_B cs)) (ck_cd up (ck_B cs) f) 5 = some b := by
        cases hq : ck_pk (ck_lB (ck_B cs)) (ck_cd up (ck_B cs) f) 5 with
        | none =>
          refine absurd (ck_ext hu ck_hi_0 (fun i hi => ?_)) h0
          have t := ck_pk_0.mp hq i hi
          unfold ck_cd at t
          rw [show ck_B cs f i = false by show bt (cs f) i = false; rw [hcs, b_0]] at t
          rw [b_0]
          simpa using t
        | some b => exact ⟨b, rfl⟩
      obtain ⟨b, hn⟩ := hn
      have hb := ck_pk_in hn
      refine ⟨7, ck_xzL _ f hf _ _ _ _ _ ce (br_t ck_66 (g4 _ ?_)) 6 0 rfl⟩
      dsimp only
      refine ck_yf _ _ _ _ _ _ hf (br_f (by decide) ⟨vf, br_t hx ⟨6, ck_ycL _ f hf _ _ _ _ _ _ hz ?_ 5 0 rfl⟩⟩)
      refine br_t ck_55 (ck_ns f hf _ dn ex ln ce cu up hd (ck_B cs) hB ?_)
      rw [hn]
      refine br_t (nI_pos' (by omega)) ⟨vf, fun a ea => ⟨vf, fun d ed => ?_⟩⟩
      rw [ef, ck_nar1] at ea
      rw [ef] at ed
      subst ea ed
      refine ⟨7, ck_yzL _ f hf _ _ _ _ ce _ (br_t ck_66 (g5 _ ?_)) 6 0 rfl⟩
      refine ⟨rfl, c, up, _, _, cs', _, dn, cu', rfl, rfl, h1, h3, hd, hu, g1, g2, fun g hg => ?_, ck_hl_u hl (l := 0) (by omega) rfl⟩
      by_cases e : g = f
      · subst e; rw [pk_us]; exact fun z => absurd z (by decide)
      · rw [pk_un e, g3 g e]; exact he g hg
  · exact br_f hx (ck_yf _ _ _ _ _ _ hf (br_f (by decide) ⟨vf, br_f hx ⟨by trivial, J⟩⟩))
theorem i_vc_remove {k : Nat} {u : SX} {v : SY} (I : i_Rel k u v) (hk : k + 4 ≤ 2049) (v1 : Int32) : wpX_remove (fun r u' => wpY_remove (fun r' v' => r' = r ∧ i_Rel (k + 4) u' v') v v1) u v1 := by
  obtain ⟨c, up, ex, ln, cs, ce, dn, cu, rfl, rfl, h1, h3, hd, hu, hB, hh, he, hl⟩ := I
  have J : i_Rel (k + 4) (nI c, up, ex, ln, cs, ce) (nI c, dn, ex, ln, ce, cu) := ⟨c, up, ex, ln, cs, ce, dn, cu, rfl, rfl, h1, h3, hd, hu, hB, hh, he, hl⟩
  unfold wpX_remove wpY_remove
  dsimp only
  rcases ck_fn v1 with h | ⟨f, hf, rfl⟩
  · exact ck_xe_b _ _ _ _ _ _ h (br_f (by decide) (ck_yf_b _ _ _ _ _ _ h (br_t rfl ⟨rfl, J⟩)))
  have ef : (nI f).toNatClampNeg = f := ck_cl (by omega)
  have vf : vp_in (nI f) 4 := vp_in_nI hf (by omega)
  simp only [ef, ck_nar0]
  by_cases hx : ex f = 0
  · exact ck_xe_n _ _ _ _ _ _ hf hx (br_f (by decide) (ck_yf _ _ _ _ _ _ hf (br_f (by decide) ⟨vf, br_t hx ⟨rfl, J⟩⟩)))
  · refine ck_xe _ _ _ _ _ _ hf hx (br_t rfl ⟨vf, fun a ea => ⟨vf, fun b eb => ?_⟩⟩)
    subst ea eb
    refine ck_yf _ _ _ _ _ _ hf (br_f (by decide) ⟨vf, br_f hx ⟨vf, fun a ea => ?_⟩⟩)
    subst ea
    refine ⟨6, ck_yrL _ f hf _ dn _ ln ce cs (fun cu' hcu => ?_) 5 0 rfl cu (ck_ov_0 f _ hB)⟩
    exact ⟨rfl, c, up, _, ln, _, ce, dn, cu', rfl, rfl, h1, h3, hd, hu, hcu, ck_hi_u hh ck_hi_0, ck_he_u he (fun _ => rfl), hl⟩
theorem i_vc_write {k : Nat} {u : SX} {v : SY} (I : i_Rel k u v) (hk : k + 4 ≤ 2049) (v1 : Int32) (v2 : Int32) (v3 : Int32) : wpX_write (fun r u' => wpY_write (fun r' v' => r' = r ∧ i_Rel (k + 4) u' v') v v1 v2 v3) u v1 v2 v3 := by
  obtain ⟨c, up, ex, ln, cs, ce, dn, cu, rfl, rfl, h1, h3, hd, hu, hB, hh, he, hl⟩ := I
  have J : i_Rel (k + 4) (nI c, up, ex, ln, cs, ce) (nI c, dn, ex, ln, ce, cu) := ⟨c, up, ex, ln, cs, ce, dn, cu, rfl, rfl, h1, h3, hd, hu, hB, hh, he, hl⟩
  unfold wpX_write
  dsimp only
  rcases ck_ref (nI c) up ex ln cs ce dn cu (nI c) hd hB hh v1 with ⟨r, r0, r1, gX, gY⟩ | ⟨f, hf, rfl, hx, ha⟩
  · refine gX _ (br_f r0 ?_)
    unfold wpY_write
    dsimp only
    exact gY _ (br_f r1 ⟨rfl, J⟩)
  have ef : (nI f).toNatClampNeg = f := ck_cl (by omega)
  have vf : vp_in (nI f) 4 := vp_in_nI hf (by omega)
  rcases ck_cn v2 with h | ⟨q, hq, rfl⟩
  · refine ck_xa _ _ _ _ _ _ hf hx ha (br_t rfl (ck_xc_b h (br_t rfl ?_)))
    unfold wpY_write
    dsimp only
    exact ck_yr _ _ _ _ _ _ hf hx up hd cs hB (hh f hf) ha (br_t (by decide) (br_c (fun _ => ⟨rfl, J⟩) (fun n => br_f (ck_n5 (h.resolve_left n)) ⟨rfl, J⟩)))
  · obtain ⟨l, hl6, hll⟩ := hl f hf
    refine ck_xa _ _ _ _ _ _ hf hx ha (br_t rfl (ck_xc hq (br_f (by decide) (ck_xs v3 _ _ _ _ _ _ hf hq hll hl6 ?_))))
    dsimp only
    refine ⟨vf, ?_⟩
    rw [ef, pk_us]
    refine ck_cs _ ?_
    exact ck_yw v3 _ dn ex ln ce cu hf hq hll hl6 up hd cs hB (hh f hf) hx ha (fun cu' hcu => ⟨rfl, c, up, ex, _, _, _, dn, cu', rfl, rfl, h1, h3, hd, hu, hcu, ck_hi_u hh (ck_hi_and (hh f hf)), ck_he_c he hx, ck_hl_n hl hq⟩)
theorem i_vc_append {k : Nat} {u : SX} {v : SY} (I : i_Rel k u v) (hk : k + 4 ≤ 2049) (v1 : Int32) (v2 : Int32) : wpX_append (fun r u' => wpY_append (fun r' v' => r' = r ∧ i_Rel (k + 4) u' v') v v1 v2) u v1 v2 := by
  obtain ⟨c, up, ex, ln, cs, ce, dn, cu, rfl, rfl, h1, h3, hd, hu, hB, hh, he, hl⟩ := I
  have J : i_Rel (k + 4) (nI c, up, ex, ln, cs, ce) (nI c, dn, ex, ln, ce, cu) := ⟨c, up, ex, ln, cs, ce, dn, cu, rfl, rfl, h1, h3, hd, hu, hB, hh, he, hl⟩
  unfold wpX_append wpY_append
  dsimp only
  rcases ck_ref (nI c) up ex ln cs ce dn cu (nI c) hd hB hh v1 with ⟨r, r0, r1, gX, gY⟩ | ⟨f, hf, rfl, hx, ha⟩
  · exact gX _ (br_f r0 (gY _ (br_f r1 ⟨rfl, J⟩)))
  have ef : (nI f).toNatClampNeg = f := ck_cl (by omega)
  have vf : vp_in (nI f) 4 := vp_in_nI hf (by omega)
  obtain ⟨l, hl6, hll⟩ := hl f hf
  simp only [ef, hll]
  refine ck_xa _ _ _ _ _ _ hf hx ha (br_t rfl ⟨vf, fun a ea => ?_⟩)
  subst ea
  by_cases h6 : l = 6
  · subst h6
    refine ck_xc_b (Or.inr ck_66) (br_t rfl (ck_yr _ _ _ _ _ _ hf hx up hd cs hB (hh f hf) ha (br_t (by decide) ⟨vf, fun b eb => ?_⟩)))
    subst eb
    exact br_t rfl ⟨by trivial, J⟩
  · refine ck_xc (by omega) (br_f (by decide) (ck_xs v2 _ _ _ _ _ _ hf (by omega) hll hl6 ?_))
    dsimp only
    refine ck_yr _ _ _ _ _ _ hf hx up hd cs hB (hh f hf) ha (br_t (by decide) ⟨vf, fun b eb => ?_⟩)
    subst eb
    exact br_f (fun z => h6 ((nI_eq (b := 6) (by omega) (by omega)).mp z)) (ck_yw v2 _ dn ex ln ce cu hf (by omega) hll hl6 up hd cs hB (hh f hf) hx ha (fun cu' hcu => ⟨rfl, c, up, ex, _, _, _, dn, cu', rfl, rfl, h1, h3, hd, hu, hcu, ck_hi_u hh (ck_hi_and (hh f hf)), ck_he_c he hx, ck_hl_n hl (by omega)⟩))
end
section
theorem i_vc_snapshot {k : Nat} {u : SX} {v : SY} (I : i_Rel k u v) (hk : k + 4 ≤ 2049) (v1 : Int32) (v2 : Int32) : wpX_snapshot (fun r u' => wpY_snapshot (fun r' v' => r' = r ∧ i_Rel (k + 4) u' v') v v1 v2) u v1 v2 := by
  obtain ⟨c, up, ex, ln, cs, ce, dn, cu, rfl, rfl, h1, h3, hd, hu, hB, hh, he, hl⟩ := I
  have J : i_Rel (k + 4) (nI c, up, ex, ln, cs, ce) (nI c, dn, ex, ln, ce, cu) := ⟨c, up, ex, ln, cs, ce, dn, cu, rfl, rfl, h1, h3, hd, hu, hB, hh, he, hl⟩
  unfold wpX_snapshot wpY_snapshot
  dsimp only
  rcases ck_fn v1 with h | ⟨f, hf, rfl⟩
  · exact ck_xf_b h (br_t rfl (ck_yf_b _ _ _ _ _ _ h (br_t rfl ⟨rfl, J⟩)))
  rcases ck_fn v2 with h | ⟨t, ht, rfl⟩
  · exact ck_xf hf (br_f (by decide) (ck_xf_b h (br_t rfl (ck_yf _ _ _ _ _ _ hf (br_f (by decide) (ck_yf_b _ _ _ _ _ _ h (br_t rfl ⟨rfl, J⟩)))))))
  have ef : (nI f).toNatClampNeg = f := ck_cl (by omega)
  have vf : vp_in (nI f) 4 := vp_in_nI hf (by omega)
  have et : (nI t).toNatClampNeg = t := ck_cl (by omega)
  have vt : vp_in (nI t) 4 := vp_in_nI ht (by omega)
  simp only [ef, et, ck_nar1]
  refine ck_xf hf (br_f (by decide) (ck_xf ht (br_f (by decide) ⟨vf, ?_⟩)))
  by_cases hx : ex f = 0
  · exact br_t hx (ck_yf _ _ _ _ _ _ hf (br_f (by decide) (ck_yf _ _ _ _ _ _ ht (br_f (by decide) ⟨vf, br_t hx ⟨by trivial, J⟩⟩))))
  refine br_f hx ⟨vt, ?_⟩
  by_cases hy : ex t = 0
  · have hft : ¬ f = t := fun z => hx (by rw [z]; exact hy)
    refine br_t hy (ck_xi _ _ _ _ _ _ hf (fun ha => br_t rfl ?_) (fun ha => br_f (by decide) ⟨vt, fun a ea => ⟨vf, vt, fun b eb => ⟨vf, vt, fun d ed => ?_⟩⟩⟩))
    · exact ck_yf _ _ _ _ _ _ hf (br_f (by decide) (ck_yf _ _ _ _ _ _ ht (br_f (by decide) ⟨vf, br_f hx ⟨vt, br_t hy (ck_yr_h _ _ _ _ _ _ hf hx up hd cs hB (hh f hf) (fun _ => br_f (by decide) ⟨by trivial, J⟩) (fun z => absurd ha z))⟩⟩)))
    · subst ea eb ed
      refine ⟨7, ck_xsL _ f t hf ht _ _ _ _ _ ce (br_t ck_66 ⟨vt, ?_⟩) 6 0 rfl⟩
      rw [et, pk_us]
      refine ck_cs _ ?_
      refine ck_yf _ _ _ _ _ _ hf (br_f (by decide) (ck_yf _ _ _ _ _ _ ht (br_f (by decide) ⟨vf, br_f hx ⟨vt, br_t hy (ck_yr _ _ _ _ _ _ hf hx up hd cs hB (hh f hf) ha (br_t (by decide) ⟨vt, fun a ea => ⟨vf, vt, fun b eb => ?_⟩⟩))⟩⟩)))
      subst ea eb
      obtain ⟨l, hl6, hll⟩ := hl f hf
      exact ⟨7, ck_ysL _ f t hf ht _ _ _ _ ce _ (br_t ck_66 ⟨6, ck_ytL _ f t hf ht hft _ dn _ _ _ up hd cs (fun cu' hcu => ⟨by trivial, c, up, _, _, _, _, dn, cu', rfl, rfl, h1, h3, hd, hu, hcu, ck_hi_u hh (hh f hf), ck_he_u he (fun z => absurd z (by decide)), ck_hl_u hl hl6 hll⟩) 5 0 rfl cu (ck_ov_0 t _ hB)⟩) 6 0 rfl⟩
  · exact br_f hy (ck_yf _ _ _ _ _ _ hf (br_f (by decide) (ck_yf _ _ _ _ _ _ ht (br_f (by decide) ⟨vf, br_f hx ⟨vt, br_f hy ⟨by trivial, J⟩⟩⟩))))
theorem i_vc_crash {k : Nat} {u : SX} {v : SY} (I : i_Rel k u v) (hk : k + 4 ≤ 2049) (v1 : Int32) : wpX_crash (fun r u' => wpY_crash (fun r' v' => r' = r ∧ i_Rel (k + 4) u' v') v v1) u v1 := by
  obtain ⟨c, up, ex, ln, cs, ce, dn, cu, rfl, rfl, h1, h3, hd, hu, hB, hh, he, hl⟩ := I
  have J : i_Rel (k + 4) (nI c, up, ex, ln, cs, ce) (nI c, dn, ex, ln, ce, cu) := ⟨c, up, ex, ln, cs, ce, dn, cu, rfl, rfl, h1, h3, hd, hu, hB, hh, he, hl⟩
  unfold wpX_crash wpY_crash
  dsimp only
  rcases ck_sn v1 with h | ⟨s, hs, rfl⟩
  · exact ck_xv_b h (br_t rfl (ck_yv_b _ _ _ _ _ _ h (br_t rfl ⟨rfl, J⟩)))
  have es : (nI s).toNatClampNeg = s := ck_cl (by omega)
  have vs : vp_in (nI s) 5 := vp_in_nI hs (by omega)
  have R : i_Rel (k + 4) (nI c, up &&& (((1 : Int32) <<< (nI s &&& 31)) ^^^ (-1)), ex, ln, cs, ce) (nI c, upd dn s 1, ex, ln, ce, cu) := ⟨c, _, ex, ln, cs, ce, _, cu, rfl, rfl, h1, h3, ck_dn_c hs hd, ck_hi_and hu, hB, hh, he, hl⟩
  refine ck_xv hs (br_f (by decide) (ck_isIn up s hs (fun hb => br_f (by decide) ?_) (fun hb => br_t rfl ?_)))
  · refine fun a ea => ck_yv _ _ _ _ _ _ hs (br_f (by decide) ⟨vs, ?_⟩)
    subst ea
    rw [es, hd s hs, hb]
    refine br_t (by decide) ⟨vs, fun b eb => ?_⟩
    rw [es, ck_nar1] at eb
    subst eb
    exact ⟨rfl, R⟩
  · refine fun a ea => ck_yv _ _ _ _ _ _ hs (br_f (by decide) ⟨vs, ?_⟩)
    subst ea
    rw [es, hd s hs, hb]
    refine br_f (by decide) ⟨vs, fun b eb => ?_⟩
    rw [es, ck_nar1] at eb
    subst eb
    exact ⟨rfl, R⟩
theorem i_vc_restart {k : Nat} {u : SX} {v : SY} (I : i_Rel k u v) (hk : k + 4 ≤ 2049) (v1 : Int32) : wpX_restart (fun r u' => wpY_restart (fun r' v' => r' = r ∧ i_Rel (k + 4) u' v') v v1) u v1 := by
  obtain ⟨c, up, ex, ln, cs, ce, dn, cu, rfl, rfl, h1, h3, hd, hu, hB, hh, he, hl⟩ := I
  have J : i_Rel (k + 4) (nI c, up, ex, ln, cs, ce) (nI c, dn, ex, ln, ce, cu) := ⟨c, up, ex, ln, cs, ce, dn, cu, rfl, rfl, h1, h3, hd, hu, hB, hh, he, hl⟩
  unfold wpX_restart wpY_restart
  dsimp only
  rcases ck_sn v1 with h | ⟨s, hs, rfl⟩
  · exact ck_xv_b h (br_t rfl (ck_yv_b _ _ _ _ _ _ h (br_t rfl ⟨rfl, J⟩)))
  have es : (nI s).toNatClampNeg = s := ck_cl (by omega)
  have vs : vp_in (nI s) 5 := vp_in_nI hs (by omega)
  have R : i_Rel (k + 4) (nI c, up ||| ((1 : Int32) <<< (nI s &&& 31)), ex, ln, cs, ce) (nI c, upd dn s 0, ex, ln, ce, cu) := ⟨c, _, ex, ln, cs, ce, _, cu, rfl, rfl, h1, h3, ck_dn_r hs hd, ck_hi_set hs hu, hB, hh, he, hl⟩
  refine ck_xv hs (br_f (by decide) (ck_isIn up s hs (fun hb => br_f (by decide) ?_) (fun hb => br_t rfl ?_)))
  · refine fun a ea => ck_yv _ _ _ _ _ _ hs (br_f (by decide) ⟨vs, ?_⟩)
    subst ea
    rw [es, hd s hs, hb]
    refine br_t (by decide) ⟨vs, fun b eb => ?_⟩
    rw [es, ck_nar0] at eb
    subst eb
    exact ⟨rfl, R⟩
  · refine fun a ea => ck_yv _ _ _ _ _ _ hs (br_f (by decide) ⟨vs, ?_⟩)
    subst ea
    rw [es, hd s hs, hb]
    refine br_f (by decide) ⟨vs, fun b eb => ?_⟩
    rw [es, ck_nar0] at eb
    subst eb
    exact ⟨rfl, R⟩
theorem i_vc_loseDisk {k : Nat} {u : SX} {v : SY} (I : i_Rel k u v) (hk : k + 4 ≤ 2049) (v1 : Int32) : wpX_loseDisk (fun r u' => wpY_loseDisk (fun r' v' => r' = r ∧ i_Rel (k + 4) u' v') v v1) u v1 := by
  obtain ⟨c, up, ex, ln, cs, ce, dn, cu, rfl, rfl, h1, h3, hd, hu, hB, hh, he, hl⟩ := I
  have J : i_Rel (k + 4) (nI c, up, ex, ln, cs, ce) (nI c, dn, ex, ln, ce, cu) := ⟨c, up, ex, ln, cs, ce, dn, cu, rfl, rfl, h1, h3, hd, hu, hB, hh, he, hl⟩
  unfold wpX_loseDisk wpY_loseDisk
  dsimp only
  rcases ck_sn v1 with h | ⟨s, hs, rfl⟩
  · exact ck_xv_b h (br_t rfl (ck_yv_b _ _ _ _ _ _ h (br_t rfl ⟨rfl, J⟩)))
  refine ck_xv hs (br_f (by decide) (ck_cr s hs _ _ _ _ _ _ (ck_xl _ _ _ _ _ _ _ _ ?_)))
  refine ck_yv _ _ _ _ _ _ hs (br_f (by decide) (ck_yld s hs _ _ _ _ _ _ (ck_B cs) hB ⟨5, ck_ylL _ s hs _ _ dn ex ln ce (ck_B cs) (fun cu' hcu => ?_) 4 0 rfl cu (ck_Cu_c hB (fun g _ t _ => if_neg (by omega)))⟩))
  refine ⟨rfl, c, up, ex, ln, _, ce, dn, cu', rfl, rfl, h1, h3, hd, hu, ck_ol_4 hs hcu, fun g hg => ?_, fun g hg z => ?_, hl⟩
  · unfold ck_lc
    rw [if_pos hg]
    exact ck_hi_and (hh g hg)
  · unfold ck_lc
    rw [if_pos hg, he g hg z]
    exact Int32.zero_and
theorem i_vc_damage {k : Nat} {u : SX} {v : SY} (I : i_Rel k u v) (hk : k + 4 ≤ 2049) (v1 : Int32) (v2 : Int32) : wpX_damage (fun r u' => wpY_damage (fun r' v' => r' = r ∧ i_Rel (k + 4) u' v') v v1 v2) u v1 v2 := by
  obtain ⟨c, up, ex, ln, cs, ce, dn, cu, rfl, rfl, h1, h3, hd, hu, hB, hh, he, hl⟩ := I
  have J : i_Rel (k + 4) (nI c, up, ex, ln, cs, ce) (nI c, dn, ex, ln, ce, cu) := ⟨c, up, ex, ln, cs, ce, dn, cu, rfl, rfl, h1, h3, hd, hu, hB, hh, he, hl⟩
  unfold wpX_damage wpY_damage
  dsimp only
  rcases ck_sn v1 with h | ⟨s, hs, rfl⟩
  · exact ck_xv_b h (br_t rfl (ck_yv_b _ _ _ _ _ _ h (br_t rfl ⟨rfl, J⟩)))
  rcases ck_fn v2 with h | ⟨f, hf, rfl⟩
  · exact ck_xv hs (br_f (by decide) (ck_xe_b _ _ _ _ _ _ h (br_f (by decide) (ck_yv _ _ _ _ _ _ hs (br_f (by decide) (ck_yf_b _ _ _ _ _ _ h (br_t rfl ⟨rfl, J⟩)))))))
  have ef : (nI f).toNatClampNeg = f := ck_cl (by omega)
  have vf : vp_in (nI f) 4 := vp_in_nI hf (by omega)
  have e5 := ck_c5 hf hs
  simp only [ef, e5]
  by_cases hx : ex f = 0
  · exact ck_xv hs (br_f (by decide) (ck_xe_n _ _ _ _ _ _ hf hx (br_f (by decide) (ck_yv _ _ _ _ _ _ hs (br_f (by decide) (ck_yf _ _ _ _ _ _ hf (br_f (by decide) ⟨vf, br_t hx ⟨by trivial, J⟩⟩)))))))
  have R : i_Rel (k + 4) (nI c, up, ex, ln, upd cs f (cs f &&& (((1 : Int32) <<< (nI s &&& 31)) ^^^ (-1))), ce) (nI c, dn, ex, ln, ce, upd cu (f * 5 + s) 0) := by
    refine ⟨c, up, ex, ln, _, ce, dn, _, rfl, rfl, h1, h3, hd, hu, ck_Cu_u (b := false) hB hs ?_ (fun g hg t ht n => ?_), ck_hi_u hh (ck_hi_and (hh f hf)), ck_he_c he hx, hl⟩
    · show bt (upd cs f _ f) s = false
      rw [pk_us, ck_clr _ s (by omega)]
      simp
    · show bt (upd cs f _ g) t = bt (cs g) t
      by_cases e : g = f
      · subst e
        have e2 : ¬ t = s := fun z => n ⟨rfl, z⟩
        rw [pk_us, ck_clr _ s (by omega)]
        simp [e2]
      · rw [pk_un e]
  refine ck_xv hs (br_f (by decide) (ck_xe _ _ _ _ _ _ hf hx (br_t rfl ⟨vf, ck_isIn (cs f) s hs (fun hb => br_f (by decide) ⟨vf, vf, fun a ea => ?_⟩) (fun hb => br_t rfl ⟨vf, vf, fun a ea => ?_⟩)⟩)))
  · rw [ef] at ea
    subst ea
    refine ck_yv _ _ _ _ _ _ hs (br_f (by decide) (ck_yf _ _ _ _ _ _ hf (br_f (by decide) ⟨vf, br_f hx ⟨ck_i5 hf hs, br_f (by rw [hB f hf s hs]; exact ck_in_t hb) ⟨ck_i5 hf hs, fun b eb => ?_⟩⟩⟩)))
    rw [e5, ck_nar0] at eb
    subst eb
    exact ⟨rfl, R⟩
  · rw [ef] at ea
    subst ea
    refine ck_yv _ _ _ _ _ _ hs (br_f (by decide) (ck_yf _ _ _ _ _ _ hf (br_f (by decide) ⟨vf, br_f hx ⟨ck_i5 hf hs, br_t (by rw [hB f hf s hs]; exact ck_in_f hb) ⟨ck_i5 hf hs, fun b eb => ?_⟩⟩⟩)))
    rw [e5, ck_nar0] at eb
    subst eb
    exact ⟨rfl, R⟩
theorem i_vc_heal {k : Nat} {u : SX} {v : SY} (I : i_Rel k u v) (hk : k + 4 ≤ 2049) : wpX_heal (fun r u' => wpY_heal (fun r' v' => r' = r ∧ i_Rel (k + 4) u' v') v) u := by
  obtain ⟨c, up, ex, ln, cs, ce, dn, cu, rfl, rfl, h1, h3, hd, hu, hB, hh, he, hl⟩ := I
  obtain ⟨r, cs', cu', g1, g2, g3, g4, g5⟩ := ck_heL c h3 up ex ln ce dn hd 4 0 rfl cs cu 0 hB hh he
  exact ⟨5, g4 _ ⟨5, g5 _ ⟨rfl, c, up, ex, ln, cs', ce, dn, cu', rfl, rfl, h1, h3, hd, hu, g1, g2, g3, hl⟩⟩⟩
theorem i_vc_read {k : Nat} {u : SX} {v : SY} (I : i_Rel k u v) (hk : k + 4 ≤ 2049) (v1 : Int32) (v2 : Int32) : wpX_read (fun r => wpY_read (fun r' => r' = r ∧ i_Rel (k + 4) u v) v v1 v2) u v1 v2 := by
  have J : i_Rel (k + 4) u v := I
  obtain ⟨c, up, ex, ln, cs, ce, dn, cu, rfl, rfl, h1, h3, hd, hu, hB, hh, he, hl⟩ := I
  unfold wpX_read wpY_read
  dsimp only
  rcases ck_ref (nI c) up ex ln cs ce dn cu (nI c) hd hB hh v1 with ⟨r, r0, r1, gX, gY⟩ | ⟨f, hf, rfl, hx, ha⟩
  · exact gX _ (br_f r0 (gY _ (br_f r1 ⟨rfl, J⟩)))
  rcases ck_cn v2 with h | ⟨q, hq, rfl⟩
  · exact ck_xa _ _ _ _ _ _ hf hx ha (br_t rfl (ck_xc_b h (br_t rfl (ck_yr _ _ _ _ _ _ hf hx up hd cs hB (hh f hf) ha (br_t (by decide) (br_c (fun _ => ⟨rfl, J⟩) (fun n => br_f (ck_n5 (h.resolve_left n)) ⟨rfl, J⟩)))))))
  · exact ck_xa _ _ _ _ _ _ hf hx ha (br_t rfl (ck_xc hq (br_f (by decide) ⟨ck_i6 hf hq, ck_yr _ _ _ _ _ _ hf hx up hd cs hB (hh f hf) ha (br_t (by decide) (br_f (nI_pos (by omega)) (br_t (nI_le (b := 5) (by omega) (by decide)) ⟨ck_i6 hf hq, rfl, J⟩)))⟩)))
theorem i_vc_length {k : Nat} {u : SX} {v : SY} (I : i_Rel k u v) (hk : k + 4 ≤ 2049) (v1 : Int32) : wpX_length (fun r => wpY_length (fun r' => r' = r ∧ i_Rel (k + 4) u v) v v1) u v1 := by
  have J : i_Rel (k + 4) u v := I
  obtain ⟨c, up, ex, ln, cs, ce, dn, cu, rfl, rfl, h1, h3, hd, hu, hB, hh, he, hl⟩ := I
  unfold wpX_length wpY_length
  dsimp only
  rcases ck_ref (nI c) up ex ln cs ce dn cu (nI c) hd hB hh v1 with ⟨r, r0, r1, gX, gY⟩ | ⟨f, hf, rfl, hx, ha⟩
  · exact gX _ (br_f r0 (gY _ (br_f r1 ⟨rfl, J⟩)))
  have vf : vp_in (nI f) 4 := vp_in_nI hf (by omega)
  exact ck_xa _ _ _ _ _ _ hf hx ha (br_t rfl ⟨vf, ck_yr _ _ _ _ _ _ hf hx up hd cs hB (hh f hf) ha (br_t (by decide) ⟨vf, rfl, J⟩)⟩)
theorem i_vc_replicas {k : Nat} {u : SX} {v : SY} (I : i_Rel k u v) (hk : k + 4 ≤ 2049) (v1 : Int32) : wpX_replicas (fun r => wpY_replicas (fun r' => r' = r ∧ i_Rel (k + 4) u v) v v1) u v1 := by
  have J : i_Rel (k + 4) u v := I
  obtain ⟨c, up, ex, ln, cs, ce, dn, cu, rfl, rfl, h1, h3, hd, hu, hB, hh, he, hl⟩ := I
  unfold wpX_replicas wpY_replicas
  dsimp only
  rcases ck_fn v1 with h | ⟨f, hf, rfl⟩
  · exact ck_xe_b _ _ _ _ _ _ h (br_f (by decide) (ck_yf_b _ _ _ _ _ _ h (br_t rfl ⟨rfl, J⟩)))
  have ef : (nI f).toNatClampNeg = f := ck_cl (by omega)
  have vf : vp_in (nI f) 4 := vp_in_nI hf (by omega)
  rw [ef]
  by_cases hx : ex f = 0
  · exact ck_xe_n _ _ _ _ _ _ hf hx (br_f (by decide) (ck_yf _ _ _ _ _ _ hf (br_f (by decide) ⟨vf, br_t hx ⟨rfl, J⟩⟩)))
  · exact ck_xe _ _ _ _ _ _ hf hx (br_t rfl ⟨vf, ck_yf _ _ _ _ _ _ hf (br_f (by decide) ⟨vf, br_f hx ⟨6, ck_ymL _ f hf _ _ _ _ _ _ cs hB (hh f hf) ⟨rfl, J⟩ 5 0 rfl 0 (fun j => by rw [b_0]; simp)⟩⟩)⟩)
end
