/-! pasted: the family 'Int32 by its bits' of kit/rows BITS, and some of kit/rows PURE-ROWS -/
def bt (x : Int32) (i : Nat) : Bool := x.toBitVec.getLsbD i
theorem b_ext {x y : Int32} (h : ∀ i, i < 32 → bt x i = bt y i) : x = y := Int32.toBitVec_inj.mp (BitVec.eq_of_getLsbD_eq (fun i hi => h i hi))
theorem b_or (x y : Int32) (i : Nat) : bt (x ||| y) i = (bt x i || bt y i) := by unfold bt; rw [Int32.toBitVec_or, BitVec.getLsbD_or]
theorem b_and (x y : Int32) (i : Nat) : bt (x &&& y) i = (bt x i && bt y i) := by unfold bt; rw [Int32.toBitVec_and, BitVec.getLsbD_and]
theorem b_xor (x y : Int32) (i : Nat) : bt (x ^^^ y) i = (bt x i ^^ bt y i) := by unfold bt; rw [Int32.toBitVec_xor, BitVec.getLsbD_xor]
theorem b_big {x : Int32} {i : Nat} (h : 32 ≤ i) : bt x i = false := BitVec.getLsbD_of_ge _ _ h
theorem b_255 (i : Nat) : bt 255 i = decide (i < 8) := by
  rcases Nat.lt_or_ge i 32 with h | h
  · exact (by decide +kernel : ∀ i, i < 32 → bt 255 i = decide (i < 8)) i h
  · rw [b_big h, decide_eq_false (by omega)]
theorem b_m1 : ∀ i, i < 32 → bt (-1) i = true := by decide +kernel
theorem b_0 (i : Nat) : bt 0 i = false := BitVec.getLsbD_zero
theorem s_l : ∀ n, n < 32 → ((nI n &&& 31).toBitVec.smod 32).toNat = n := by decide +kernel
theorem b_shl (n : Nat) (hn : n < 32) (x : Int32) {i : Nat} (hi : i < 32) : bt (x <<< (nI n &&& 31)) i = (decide (n ≤ i) && bt x (i - n)) := by
  unfold bt
  rw [Int32.toBitVec_shiftLeft]
  show (x.toBitVec <<< ((nI n &&& 31).toBitVec.smod 32).toNat).getLsbD i = _
  rw [s_l n hn, BitVec.getLsbD_shiftLeft]
  rcases Nat.lt_or_ge i n with h | h
  · simp [h, Nat.not_le.mpr h]
  · simp [hi, h, Nat.not_lt.mpr h]
theorem b_sshr (n : Nat) (hn : n < 32) (x : Int32) {i : Nat} (hi : i < 32) : bt (x >>> (nI n &&& 31)) i = if n + i < 32 then bt x (n + i) else bt x 31 := by
  unfold bt
  rw [Int32.toBitVec_shiftRight]
  show (x.toBitVec.sshiftRight ((nI n &&& 31).toBitVec.smod 32).toNat).getLsbD i = _
  rw [s_l n hn, BitVec.getLsbD_sshiftRight, BitVec.msb_eq_getLsbD_last]
  simp [hi]
theorem pk_us {f : Nat → Int32} {k : Nat} {x : Int32} : upd f k x k = x := if_pos rfl
theorem pk_un {f : Nat → Int32} {k j : Nat} {x : Int32} (h : j ≠ k) : upd f k x j = f j := if_neg h
theorem pk_m1 (n : Nat) : nI (n + 1) + (-1) = nI n := by
  rw [← nI_1, Int32.add_assoc, show (1 : Int32) + (-1) = 0 from rfl, Int32.add_zero]
theorem pk_mul (a b : Nat) : nI a * nI b = nI (a * b) := (Int32.ofNat_mul a b).symm
theorem pk_div {a d : Nat} (ha : a < 2 ^ 31) (h0 : 0 < d) (hd : d < 2 ^ 31) : nI a / nI d = nI (a / d) := by
  apply Int32.toInt_inj.mp
  rw [lg_idiv_nonneg (by rw [nI_toInt ha]; omega) (by rw [nI_toInt hd]; omega), nI_toInt ha, nI_toInt hd, nI_toInt (Nat.lt_of_le_of_lt (Nat.div_le_self a d) ha)]
  first | rfl | exact (Int.natCast_ediv _ _).symm
theorem pk_le {x y : Int32} {A B : Prop} (a b : Nat) (f : a ≤ b → A) (g : b < a → B) (hx : x = nI a := by rfl) (hy : y = nI b := by rfl) (ha : a < 2 ^ 31 := by omega) (hb : b < 2 ^ 31 := by omega) : (x ≤ y → A) ∧ (¬ x ≤ y → B) := by
  subst hx hy
  rw [nI_leI ha hb]
  exact ⟨f, fun z => g (by omega)⟩
theorem pk_lt {x y : Int32} {A B : Prop} (a b : Nat) (f : a < b → A) (g : b ≤ a → B) (hx : x = nI a := by rfl) (hy : y = nI b := by rfl) (ha : a < 2 ^ 31 := by omega) (hb : b < 2 ^ 31 := by omega) : (x < y → A) ∧ (¬ x < y → B) := by
  subst hx hy
  rw [nI_ltI ha hb]
  exact ⟨f, fun z => g (by omega)⟩
theorem pk_eq {x y : Int32} {A B : Prop} (a b : Nat) (f : a = b → A) (g : a ≠ b → B) (hx : x = nI a := by rfl) (hy : y = nI b := by rfl) (ha : a < 2 ^ 31 := by omega) (hb : b < 2 ^ 31 := by omega) : (x = y → A) ∧ (¬ x = y → B) := by
  subst hx hy
  rw [nI_eq ha hb]
  exact ⟨f, g⟩
theorem pk_in {x : Int32} (n N : Nat) (h : n < N) (hx : x = nI n := by rfl) (hN : N < 2 ^ 31 := by omega) : vp_in x N := by
  subst hx
  exact vp_in_nI h hN
theorem pk_cl {x : Int32} (n : Nat) (hx : x = nI n := by rfl) (h : n < 2 ^ 31 := by omega) : x.toNatClampNeg = n := by
  subst hx
  exact nI_clamp h
/-! sets as numbers: own rows -/
def cp_w (x : Int32) : Prop := ∀ i, 8 ≤ i → bt x i = false
def cp_sub (x y : Int32) : Prop := ∀ i, bt x i = true → bt y i = true
def cp_mt (x y : Int32) : Prop := ∃ i, bt x i = true ∧ bt y i = true
theorem cp_bf {b : Bool} (h : ¬ b = true) : b = false := by
  cases b
  · rfl
  · exact absurd rfl h
theorem cp_tf {b : Bool} (h : b = true) (h' : b = false) : False := by
  rw [h] at h'
  exact Bool.noConfusion h'
theorem cp_eq0 {x : Int32} : x = 0 ↔ ∀ i, bt x i = false :=
  ⟨fun h i => by rw [h, b_0], fun h => b_ext fun i _ => by rw [h, b_0]⟩
theorem cp_lt32 {x : Int32} {i : Nat} (h : bt x i = true) : i < 32 := by
  rcases Nat.lt_or_ge i 32 with z | z
  · exact z
  · exact (cp_tf h (b_big z)).elim
theorem cp_lt8 {x : Int32} (w : cp_w x) {i : Nat} (h : bt x i = true) : i < 8 := by
  rcases Nat.lt_or_ge i 8 with z | z
  · exact z
  · exact (cp_tf h (w i z)).elim
theorem cp_anti {x y : Int32} (h : cp_sub x y) (h' : cp_sub y x) : x = y := by
  refine b_ext fun i _ => ?_
  rw [Bool.eq_iff_iff]
  exact ⟨h i, h' i⟩
theorem cp_subI (x y : Int32) : (x &&& (y ^^^ (-1))) = 0 ↔ cp_sub x y := by
  rw [cp_eq0]
  constructor
  · intro h i hi
    have z := h i
    rw [b_and, b_xor, b_m1 i (cp_lt32 hi), hi] at z
    revert z
    cases bt y i <;> simp
  · intro h i
    rw [b_and, b_xor]
    rcases Nat.lt_or_ge i 32 with z | z
    · rw [b_m1 i z]
      cases e : bt x i
      · rfl
      · rw [h i e]; rfl
    · rw [b_big (x := x) z]; rfl
theorem cp_mtI (x y : Int32) : ¬ (x &&& y) = 0 ↔ cp_mt x y := by
  rw [cp_eq0]
  constructor
  · intro h
    refine Classical.byContradiction fun hn => h fun i => ?_
    rw [b_and]
    cases e : bt x i
    · rfl
    · cases f : bt y i
      · rfl
      · exact absurd ⟨i, e, f⟩ hn
  · rintro ⟨i, e, f⟩ h
    have z := h i
    rw [b_and, e, f] at z
    exact absurd z (by decide)
theorem cp_b1 (i : Nat) : bt 1 i = decide (i = 0) := by
  rcases Nat.lt_or_ge i 32 with h | h
  · exact (by decide +kernel : ∀ i, i < 32 → bt 1 i = decide (i = 0)) i h
  · rw [b_big h, decide_eq_false (by omega)]
theorem cp_bitV (x : Int32) {s : Nat} (hs : s < 32) : ((x >>> (nI s &&& 31)) &&& 1) = if bt x s = true then 1 else 0 := by
  apply b_ext
  intro i _
  rw [b_and, cp_b1]
  rcases Nat.eq_zero_or_pos i with h | h
  · subst h
    rw [b_sshr s hs x (by decide), if_pos (by omega), Nat.add_zero]
    cases e : bt x s
    · rw [if_neg (by decide), b_0]; rfl
    · rw [if_pos rfl, cp_b1]; rfl
  · rw [decide_eq_false (by omega), Bool.and_false]
    cases e : bt x s
    · rw [if_neg (by decide), b_0]
    · rw [if_pos rfl, cp_b1, decide_eq_false (by omega)]
theorem cp_bit0 (x : Int32) {s : Nat} (hs : s < 32) : ((x >>> (nI s &&& 31)) &&& 1) = 0 ↔ ¬ bt x s = true := by
  rw [cp_bitV x hs]
  by_cases e : bt x s = true
  · rw [if_pos e]
    exact ⟨fun h => absurd h (by decide), fun h => absurd e h⟩
  · rw [if_neg e]
    exact ⟨fun _ => e, fun _ => rfl⟩
theorem cp_bit1 (x : Int32) {s : Nat} (hs : s < 32) : ((x >>> (nI s &&& 31)) &&& 1) = 1 ↔ bt x s = true := by
  rw [cp_bitV x hs]
  by_cases e : bt x s = true
  · rw [if_pos e]
    exact ⟨fun _ => e, fun _ => rfl⟩
  · rw [if_neg e]
    exact ⟨fun h => absurd h (by decide), fun h => absurd h e⟩
theorem cp_one {k : Nat} (hk : k < 32) (i : Nat) : bt ((1 : Int32) <<< (nI k &&& 31)) i = true ↔ i = k := by
  rcases Nat.lt_or_ge i 32 with hi | hi
  · rw [b_shl k hk 1 hi, cp_b1, Bool.and_eq_true, decide_eq_true_iff, decide_eq_true_iff]
    omega
  · rw [b_big hi]
    exact ⟨fun h => Bool.noConfusion h, fun h => absurd h (by omega)⟩
theorem cp_orT (x y : Int32) (i : Nat) : bt (x ||| y) i = true ↔ bt x i = true ∨ bt y i = true := by
  rw [b_or, Bool.or_eq_true]
theorem cp_btn (n : Nat) {i : Nat} (hi : i < 32) : bt (nI n) i = n.testBit i := by
  show (BitVec.ofNat 32 n).getLsbD i = _
  rw [BitVec.getLsbD_ofNat, decide_eq_true hi, Bool.true_and]
theorem cp_wn {n : Nat} (h : n < 256) : cp_w (nI n) := by
  intro i hi
  rcases Nat.lt_or_ge i 32 with z | z
  · rw [cp_btn n z]
    exact Nat.testBit_lt_two_pow (Nat.lt_of_lt_of_le h (Nat.pow_le_pow_right (by decide) hi : 2 ^ 8 ≤ 2 ^ i))
  · exact b_big z
theorem cp_nw {x : Int32} (h : cp_w x) : ∃ n, n < 256 ∧ x = nI n := by
  refine ⟨x.toBitVec.toNat, ?_, ?_⟩
  · exact Nat.lt_pow_two_of_testBit (n := 8) _ fun i hi => h i hi
  · apply Int32.toBitVec_inj.1
    show x.toBitVec = BitVec.ofNat 32 x.toBitVec.toNat
    simp
theorem cp_w0 : cp_w 0 := fun i _ => b_0 i
theorem cp_w255 : cp_w 255 := fun i h => by rw [b_255, decide_eq_false (by omega)]
theorem cp_sub255 {x : Int32} (w : cp_w x) : cp_sub x 255 := fun i h => by
  rw [b_255, decide_eq_true (cp_lt8 w h)]
theorem cp_sub_rfl (x : Int32) : cp_sub x x := fun _ h => h
theorem cp_sub_tr {x y z : Int32} (h : cp_sub x y) (h' : cp_sub y z) : cp_sub x z := fun i hi => h' i (h i hi)
theorem cp_mt_mono {x y z : Int32} (h : cp_mt x y) (h' : cp_sub y z) : cp_mt x z := by
  obtain ⟨i, e, f⟩ := h
  exact ⟨i, e, h' i f⟩
theorem cp_w_sub {x y : Int32} (h : cp_sub x y) (w : cp_w y) : cp_w x := fun i hi => cp_bf fun e => cp_tf (h i e) (w i hi)
theorem cp_ne0 {x : Int32} : ¬ x = 0 ↔ ∃ i, bt x i = true := by
  rw [cp_eq0]
  constructor
  · intro h
    refine Classical.byContradiction fun hn => h fun i => cp_bf fun e => hn ⟨i, e⟩
  · rintro ⟨i, e⟩ h
    exact cp_tf e (h i)
/-! counting members -/
def cp_cn (x : Int32) : Nat → Nat
  | 0 => 0
  | n + 1 => cp_cn x n + (if bt x n = true then 1 else 0)
theorem cp_cn_le (x : Int32) : ∀ n, cp_cn x n ≤ n := by
  intro n
  induction n with
  | zero => exact Nat.le_refl 0
  | succ n ih =>
    show cp_cn x n + (if bt x n = true then 1 else 0) ≤ n + 1
    by_cases e : bt x n = true
    · rw [if_pos e]; omega
    · rw [if_neg e]; omega
theorem cp_cn_mono {x y : Int32} (h : cp_sub x y) : ∀ n, cp_cn x n ≤ cp_cn y n := by
  intro n
  induction n with
  | zero => exact Nat.le_refl 0
  | succ n ih =>
    show cp_cn x n + (if bt x n = true then 1 else 0) ≤ cp_cn y n + (if bt y n = true then 1 else 0)
    by_cases e : bt x n = true
    · rw [if_pos e, if_pos (h n e)]; omega
    · rw [if_neg e]; omega
theorem cp_cn_lt {x y : Int32} (h : cp_sub x y) {i : Nat} (hx : ¬ bt x i = true) (hy : bt y i = true) : ∀ n, i < n → cp_cn x n < cp_cn y n := by
  intro n
  induction n with
  | zero => intro hi; omega
  | succ n ih =>
    intro hi
    show cp_cn x n + (if bt x n = true then 1 else 0) < cp_cn y n + (if bt y n = true then 1 else 0)
    have m := cp_cn_mono h n
    by_cases e : i = n
    · subst e
      rw [if_neg hx, if_pos hy]; omega
    · have l := ih (by omega)
      by_cases e : bt x n = true
      · rw [if_pos e, if_pos (h n e)]; omega
      · rw [if_neg e]; omega
theorem cp_grow {x y : Int32} (h : cp_sub x y) (w : cp_w y) (ne : ¬ y = x) : cp_cn x 8 < cp_cn y 8 := by
  have : ∃ i, ¬ bt x i = true ∧ bt y i = true := by
    refine Classical.byContradiction fun hn => ne (cp_anti ?_ h)
    intro i hi
    exact Classical.byContradiction fun e => hn ⟨i, e, hi⟩
  obtain ⟨i, e, f⟩ := this
  exact cp_cn_lt h e f 8 (cp_lt8 w f)
theorem cp_cn_pos {x : Int32} {i : Nat} (hx : bt x i = true) : ∀ n, i < n → 0 < cp_cn x n := by
  intro n hi
  have h : cp_sub 0 x := fun j hj => (cp_tf hj (b_0 j)).elim
  have l := cp_cn_lt h (fun e => cp_tf e (b_0 i)) hx n hi
  omega
theorem cp_cn0 {x : Int32} (w : cp_w x) (h : cp_cn x 8 = 0) : x = 0 := by
  refine Classical.byContradiction fun ne => ?_
  obtain ⟨i, e⟩ := cp_ne0.mp ne
  have := cp_cn_pos e 8 (cp_lt8 w e)
  omega
