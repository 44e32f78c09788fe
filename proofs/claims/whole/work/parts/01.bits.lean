theorem pk_us {f : Nat → Int32} {k : Nat} {x : Int32} : upd f k x k = x := if_pos rfl
theorem pk_un {f : Nat → Int32} {k j : Nat} {x : Int32} (h : j ≠ k) : upd f k x j = f j := if_neg h
theorem pk_sub {a b : Nat} (h : b ≤ a) : nI a - nI b = nI (a - b) := by
  obtain ⟨c, rfl⟩ : ∃ c, a = c + b := ⟨a - b, by omega⟩
  rw [← nI_add, Int32.add_sub_cancel, Nat.add_sub_cancel]
theorem pk_mul (a b : Nat) : nI a * nI b = nI (a * b) := (Int32.ofNat_mul a b).symm
theorem pk_sub_toInt {a b : Nat} (ha : a < 2 ^ 30) (hb : b < 2 ^ 30) : (nI a - nI b).toInt = (a : Int) - b := by
  rw [Int32.toInt_sub, nI_toInt (by omega), nI_toInt (by omega)]
  exact Int.bmod_eq_of_le (by omega) (by omega)
theorem pk_ix (x : Int32) {n : Nat} (hn : n < 2 ^ 31) : x < 0 ∨ nI n ≤ x ∨ ∃ j : Nat, j < n ∧ x = nI j := by
  by_cases h : x < 0
  · exact Or.inl h
  · obtain ⟨j, hj, rfl⟩ := nI_of h
    by_cases h2 : j < n
    · exact Or.inr (Or.inr ⟨j, h2, rfl⟩)
    · exact Or.inr (Or.inl (nI_le (by omega) hj))
theorem pk_le {x y : Int32} {A B : Prop} (a b : Nat) (f : a ≤ b → A) (g : b < a → B) (hx : x = nI a := by rfl) (hy : y = nI b := by rfl) (ha : a < 2 ^ 31 := by omega) (hb : b < 2 ^ 31 := by omega) : (x ≤ y → A) ∧ (¬ x ≤ y → B) := by
  subst hx hy
  rw [nI_leI ha hb]
  exact ⟨f, fun z => g (by omega)⟩
theorem pk_lt {x y : Int32} {A B : Prop} (a b : Nat) (f : a < b → A) (g : b ≤ a → B) (hx : x = nI a := by rfl) (hy : y = nI b := by rfl) (ha : a < 2 ^ 31 := by omega) (hb : b < 2 ^ 31 := by omega) : (x < y → A) ∧ (¬ x < y → B) := by
  subst hx hy
  rw [nI_ltI ha hb]
  exact ⟨f, fun z => g (by omega)⟩
theorem pk_eq {x y : Int32} {A B : Prop} (a b : Nat) (f : a = b → A) (g : a ≠ b → B) (hx : x = nI a := by rfl) (hy : y = nI b := by rfl) (ha : a < 2 ^ 31 := by omega) (hb : b < 2 ^ 31 := by omega) : (x = y → A) ∧ (¬ x = y → B) := by
  subst hx hy
  rw [nI_eq ha hb]
  exact ⟨f, g⟩
theorem pk_in {x : Int32} (n N : Nat) (h : n < N) (hx : x = nI n := by rfl) (hN : N < 2 ^ 31 := by omega) : vp_in x N := by
  subst hx
  exact vp_in_nI h hN
theorem pk_cl {x : Int32} (n : Nat) (hx : x = nI n := by rfl) (h : n < 2 ^ 31 := by omega) : x.toNatClampNeg = n := by
  subst hx
  exact nI_clamp h
def bt (x : Int32) (i : Nat) : Bool := x.toBitVec.getLsbD i
theorem b_ext {x y : Int32} (h : ∀ i, i < 32 → bt x i = bt y i) : x = y := Int32.toBitVec_inj.mp (BitVec.eq_of_getLsbD_eq (fun i hi => h i hi))
theorem b_or (x y : Int32) (i : Nat) : bt (x ||| y) i = (bt x i || bt y i) := by unfold bt; rw [Int32.toBitVec_or, BitVec.getLsbD_or]
theorem b_and (x y : Int32) (i : Nat) : bt (x &&& y) i = (bt x i && bt y i) := by unfold bt; rw [Int32.toBitVec_and, BitVec.getLsbD_and]
theorem b_xor (x y : Int32) (i : Nat) : bt (x ^^^ y) i = (bt x i ^^ bt y i) := by unfold bt; rw [Int32.toBitVec_xor, BitVec.getLsbD_xor]
theorem b_big {x : Int32} {i : Nat} (h : 32 ≤ i) : bt x i = false := BitVec.getLsbD_of_ge _ _ h
theorem b_m1 : ∀ i, i < 32 → bt (-1) i = true := by decide +kernel
theorem b_0 (i : Nat) : bt 0 i = false := BitVec.getLsbD_zero
theorem s_l : ∀ n, n < 32 → ((nI n &&& 31).toBitVec.smod 32).toNat = n := by decide +kernel
theorem b_shl (n : Nat) (hn : n < 32) (x : Int32) {i : Nat} (hi : i < 32) : bt (x <<< (nI n &&& 31)) i = (decide (n ≤ i) && bt x (i - n)) := by
  unfold bt
  rw [Int32.toBitVec_shiftLeft]
  show (x.toBitVec <<< ((nI n &&& 31).toBitVec.smod 32).toNat).getLsbD i = _
  rw [s_l n hn, BitVec.getLsbD_shiftLeft]
  rcases Nat.lt_or_ge i n with h | h
  · simp [h, Nat.not_le.mpr h]
  · simp [hi, h, Nat.not_lt.mpr h]
theorem b_sshr (n : Nat) (hn : n < 32) (x : Int32) {i : Nat} (hi : i < 32) : bt (x >>> (nI n &&& 31)) i = if n + i < 32 then bt x (n + i) else bt x 31 := by
  unfold bt
  rw [Int32.toBitVec_shiftRight]
  show (x.toBitVec.sshiftRight ((nI n &&& 31).toBitVec.smod 32).toNat).getLsbD i = _
  rw [s_l n hn, BitVec.getLsbD_sshiftRight, BitVec.msb_eq_getLsbD_last]
  simp [hi]
/-! own rows: numbers, indices, bits -/
theorem ck_nar0 : vp_nar .boolean 0 = 0 := by decide +kernel
theorem ck_nar1 : vp_nar .boolean 1 = 1 := by decide +kernel
def ck_in (b : Bool) : Int32 := if b = true then 1 else 0
theorem ck_narI (b : Bool) : vp_nar .boolean (ck_in b) = ck_in b := by cases b <;> decide +kernel
theorem ck_in_t {b : Bool} (h : b = true) : ¬ ck_in b = 0 := by subst h; decide
theorem ck_in_f {b : Bool} (h : b = false) : ck_in b = 0 := by subst h; rfl
theorem ck_cl {f : Nat} (h : f < 100) : (nI f).toNatClampNeg = f := nI_clamp (by omega)
theorem ck_x6 (f c : Nat) : nI f * 6 + nI c = nI (f * 6 + c) := by
  rw [show (6 : Int32) = nI 6 from rfl, pk_mul, nI_add]
theorem ck_x5 (f c : Nat) : nI f * 5 + nI c = nI (f * 5 + c) := by
  rw [show (5 : Int32) = nI 5 from rfl, pk_mul, nI_add]
theorem ck_i6 {f c : Nat} (hf : f < 4) (hc : c < 6) : vp_in (nI f * 6 + nI c) 24 := by
  rw [ck_x6]; exact vp_in_nI (by omega) (by omega)
theorem ck_i5 {f c : Nat} (hf : f < 4) (hc : c < 5) : vp_in (nI f * 5 + nI c) 20 := by
  rw [ck_x5]; exact vp_in_nI (by omega) (by omega)
theorem ck_c6 {f c : Nat} (hf : f < 4) (hc : c < 6) : (nI f * 6 + nI c).toNatClampNeg = f * 6 + c := by
  rw [ck_x6]; exact nI_clamp (by omega)
theorem ck_c5 {f c : Nat} (hf : f < 4) (hc : c < 5) : (nI f * 5 + nI c).toNatClampNeg = f * 5 + c := by
  rw [ck_x5]; exact nI_clamp (by omega)
theorem ck_ne1 {b : Nat} (h : b < 100) : ¬ nI b = -1 := by
  intro e
  have t := nI_toInt (n := b) (by omega)
  rw [e] at t
  have t2 : (-1 : Int32).toInt = -1 := by decide
  omega
theorem ck_sle {c h m : Nat} (hc : c < 100) (hh : h < 100) (hm : m < 100) : nI c - nI h ≤ nI m ↔ c ≤ m + h := by
  rw [Int32.le_iff_toInt_le, pk_sub_toInt (by omega) (by omega), nI_toInt (by omega)]
  omega
theorem ck_fn (x : Int32) : (x < 0 ∨ 4 ≤ x) ∨ ∃ j : Nat, j < 4 ∧ x = nI j := by
  rcases pk_ix x (n := 4) (by decide) with h | h | h
  · exact Or.inl (Or.inl h)
  · exact Or.inl (Or.inr h)
  · exact Or.inr h
theorem ck_sn (x : Int32) : (x < 0 ∨ 5 ≤ x) ∨ ∃ j : Nat, j < 5 ∧ x = nI j := by
  rcases pk_ix x (n := 5) (by decide) with h | h | h
  · exact Or.inl (Or.inl h)
  · exact Or.inl (Or.inr h)
  · exact Or.inr h
theorem ck_cn (x : Int32) : (x < 0 ∨ 6 ≤ x) ∨ ∃ j : Nat, j < 6 ∧ x = nI j := by
  rcases pk_ix x (n := 6) (by decide) with h | h | h
  · exact Or.inl (Or.inl h)
  · exact Or.inl (Or.inr h)
  · exact Or.inr h
theorem ck_le4 {i : Nat} (h : i < 4) : ¬ (4 : Int32) ≤ nI i := nI_ge (b := 4) h (by decide)
theorem ck_le5 {i : Nat} (h : i < 5) : ¬ (5 : Int32) ≤ nI i := nI_ge (b := 5) h (by decide)
theorem ck_le6 {i : Nat} (h : i < 6) : ¬ (6 : Int32) ≤ nI i := nI_ge (b := 6) h (by decide)
theorem ck_44 : (4 : Int32) ≤ nI 4 := by decide +kernel
theorem ck_55 : (5 : Int32) ≤ nI 5 := by decide +kernel
theorem ck_66 : (6 : Int32) ≤ nI 6 := by decide +kernel
theorem ck_us {f : Nat → Int32} {k : Nat} {x : Int32} (h : f k = x) : upd f k x = f := by
  funext j
  by_cases e : j = k
  · subst e; rw [pk_us, h]
  · rw [pk_un e]
theorem ck_b1 : ∀ i, i < 32 → bt 1 i = decide (i = 0) := by decide +kernel
theorem ck_one (s : Nat) (hs : s < 32) (i : Nat) (hi : i < 32) : bt ((1 : Int32) <<< (nI s &&& 31)) i = decide (i = s) := by
  rw [b_shl s hs 1 hi, ck_b1 _ (by omega)]
  by_cases e : i = s
  · subst e; simp
  · by_cases e2 : s ≤ i
    · have e3 : ¬ i - s = 0 := by omega
      simp [e, e3]
    · simp [e, e2]
theorem ck_bit (x : Int32) (s : Nat) (hs : s < 32) : ((x >>> (nI s &&& 31)) &&& 1) = 1 ↔ bt x s = true := by
  constructor
  · intro h
    have t := congrArg (fun y => bt y 0) h
    rw [b_and, b_sshr s hs x (by omega), ck_b1 0 (by omega), Nat.add_zero, if_pos hs] at t
    simpa using t
  · intro h
    apply b_ext
    intro i hi
    rw [b_and, b_sshr s hs x hi, ck_b1 i hi]
    by_cases e : i = 0
    · subst e; rw [Nat.add_zero, if_pos hs, h]; rfl
    · simp [e]
theorem ck_set (x : Int32) (s : Nat) (hs : s < 32) (i : Nat) : bt (x ||| ((1 : Int32) <<< (nI s &&& 31))) i = (bt x i || decide (i = s)) := by
  rcases Nat.lt_or_ge i 32 with h | h
  · rw [b_or, ck_one s hs i h]
  · have e : ¬ i = s := by omega
    rw [b_big h, b_big h]; simp [e]
theorem ck_clr (x : Int32) (s : Nat) (hs : s < 32) (i : Nat) : bt (x &&& (((1 : Int32) <<< (nI s &&& 31)) ^^^ (-1))) i = (bt x i && !decide (i = s)) := by
  rcases Nat.lt_or_ge i 32 with h | h
  · rw [b_and, b_xor, ck_one s hs i h, b_m1 i h, Bool.xor_true]
  · rw [b_big h, b_big h]; rfl
theorem ck_not (x y : Int32) (i : Nat) (h : i < 32) : bt (x &&& (y ^^^ (-1))) i = (bt x i && !bt y i) := by
  rw [b_and, b_xor, b_m1 i h, Bool.xor_true]
