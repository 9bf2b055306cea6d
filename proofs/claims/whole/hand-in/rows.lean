section
/-! pasted: the family 'Int32 by its bits' of kit/rows BITS, and some of kit/rows PURE-ROWS -/
def bt (x : Int32) (i : Nat) : Bool := x.toBitVec.getLsbD i
theorem b_ext {x y : Int32} (h : ∀ i, i < 32 → bt x i = bt y i) : x = y := Int32.toBitVec_inj.mp (BitVec.eq_of_getLsbD_eq (fun i hi => h i hi))
theorem b_or (x y : Int32) (i : Nat) : bt (x ||| y) i = (bt x i || bt y i) := by unfold bt; rw [Int32.toBitVec_or, BitVec.getLsbD_or]
theorem b_and (x y : Int32) (i : Nat) : bt (x &&& y) i = (bt x i && bt y i) := by unfold bt; rw [Int32.toBitVec_and, BitVec.getLsbD_and]
theorem b_xor (x y : Int32) (i : Nat) : bt (x ^^^ y) i = (bt x i ^^ bt y i) := by unfold bt; rw [Int32.toBitVec_xor, BitVec.getLsbD_xor]
theorem b_big {x : Int32} {i : Nat} (h : 32 ≤ i) : bt x i = false := BitVec.getLsbD_of_ge _ _ h
theorem b_255 (i : Nat) : bt 255 i = decide (i < 8) := by
  rcases Nat.lt_or_ge i 32 with h | h
  · exact (by decide +kernel : ∀ i, i < 32 → bt 255 i = decide (i < 8)) i h
  · rw [b_big h, decide_eq_false (by omega)]
theorem b_m1 : ∀ i, i < 32 → bt (-1) i = true := by decide +kernel
theorem b_0 (i : Nat) : bt 0 i = false := BitVec.getLsbD_zero
theorem s_l : ∀ n, n < 32 → ((nI n &&& 31).toBitVec.smod 32).toNat = n := by decide +kernel
theorem b_shl (n : Nat) (hn : n < 32) (x : Int32) {i : Nat} (hi : i < 32) : bt (x <<< (nI n &&& 31)) i = (decide (n ≤ i) && bt x (i - n)) := by
  unfold bt
  rw [Int32.toBitVec_shiftLeft]
  show (x.toBitVec <<< ((nI n &&& 31).toBitVec.smod 32).toNat).getLsbD i = _
  rw [s_l n hn, BitVec.getLsbD_shiftLeft]
  rcases Nat.lt_or_ge i n with h | h
  · simp [h, Nat.not_le.mpr h]
  · simp [hi, h, Nat.not_lt.mpr h]
theorem b_sshr (n : Nat) (hn : n < 32) (x : Int32) {i : Nat} (hi : i < 32) : bt (x >>> (nI n &&& 31)) i = if n + i < 32 then bt x (n + i) else bt x 31 := by
  unfold bt
  rw [Int32.toBitVec_shiftRight]
  show (x.toBitVec.sshiftRight ((nI n &&& 31).toBitVec.smod 32).toNat).getLsbD i = _
  rw [s_l n hn, BitVec.getLsbD_sshiftRight, BitVec.msb_eq_getLsbD_last]
  simp [hi]
theorem pk_us {f : Nat → Int32} {k : Nat} {x : Int32} : upd f k x k = x := if_pos rfl
theorem pk_un {f : Nat → Int32} {k j : Nat} {x : Int32} (h : j ≠ k) : upd f k x j = f j := if_neg h
theorem pk_m1 (n : Nat) : nI (n + 1) + (-1) = nI n := by
  rw [← nI_1, Int32.add_assoc, show (1 : Int32) + (-1) = 0 from rfl, Int32.add_zero]
theorem pk_mul (a b : Nat) : nI a * nI b = nI (a * b) := (Int32.ofNat_mul a b).symm
theorem pk_div {a d : Nat} (ha : a < 2 ^ 31) (h0 : 0 < d) (hd : d < 2 ^ 31) : nI a / nI d = nI (a / d) := by
  apply Int32.toInt_inj.mp
  rw [lg_idiv_nonneg (by rw [nI_toInt ha]; omega) (by rw [nI_toInt hd]; omega), nI_toInt ha, nI_toInt hd, nI_toInt (Nat.lt_of_le_of_lt (Nat.div_le_self a d) ha)]
  first | rfl | exact (Int.natCast_ediv _ _).symm
theorem pk_le {x y : Int32} {A B : Prop} (a b : Nat) (f : a ≤ b → A) (g : b < a → B) (hx : x = nI a := by rfl) (hy : y = nI b := by rfl) (ha : a < 2 ^ 31 := by omega) (hb : b < 2 ^ 31 := by omega) : (x ≤ y → A) ∧ (¬ x ≤ y → B) := by
  subst hx hy
  rw [nI_leI ha hb]
  exact ⟨f, fun z => g (by omega)⟩
theorem pk_lt {x y : Int32} {A B : Prop} (a b : Nat) (f : a < b → A) (g : b ≤ a → B) (hx : x = nI a := by rfl) (hy : y = nI b := by rfl) (ha : a < 2 ^ 31 := by omega) (hb : b < 2 ^ 31 := by omega) : (x < y → A) ∧ (¬ x < y → B) := by
  subst hx hy
  rw [nI_ltI ha hb]
  exact ⟨f, fun z => g (by omega)⟩
theorem pk_eq {x y : Int32} {A B : Prop} (a b : Nat) (f : a = b → A) (g : a ≠ b → B) (hx : x = nI a := by rfl) (hy : y = nI b := by rfl) (ha : a < 2 ^ 31 := by omega) (hb : b < 2 ^ 31 := by omega) : (x = y → A) ∧ (¬ x = y → B) := by
  subst hx hy
  rw [nI_eq ha hb]
  exact ⟨f, g⟩
theorem pk_in {x : Int32} (n N : Nat) (h : n < N) (hx : x = nI n := by rfl) (hN : N < 2 ^ 31 := by omega) : vp_in x N := by
  subst hx
  exact vp_in_nI h hN
theorem pk_cl {x : Int32} (n : Nat) (hx : x = nI n := by rfl) (h : n < 2 ^ 31 := by omega) : x.toNatClampNeg = n := by
  subst hx
  exact nI_clamp h
/-! sets as numbers: own rows -/
def cp_w (x : Int32) : Prop := ∀ i, 8 ≤ i → bt x i = false
def cp_sub (x y : Int32) : Prop := ∀ i, bt x i = true → bt y i = true
def cp_mt (x y : Int32) : Prop := ∃ i, bt x i = true ∧ bt y i = true
theorem cp_bf {b : Bool} (h : ¬ b = true) : b = false := by
  cases b
  · rfl
  · exact absurd rfl h
theorem cp_tf {b : Bool} (h : b = true) (h' : b = false) : False := by
  rw [h] at h'
  exact Bool.noConfusion h'
theorem cp_eq0 {x : Int32} : x = 0 ↔ ∀ i, bt x i = false :=
  ⟨fun h i => by rw [h, b_0], fun h => b_ext fun i _ => by rw [h, b_0]⟩
theorem cp_lt32 {x : Int32} {i : Nat} (h : bt x i = true) : i < 32 := by
  rcases Nat.lt_or_ge i 32 with z | z
  · exact z
  · exact (cp_tf h (b_big z)).elim
theorem cp_lt8 {x : Int32} (w : cp_w x) {i : Nat} (h : bt x i = true) : i < 8 := by
  rcases Nat.lt_or_ge i 8 with z | z
  · exact z
  · exact (cp_tf h (w i z)).elim
theorem cp_anti {x y : Int32} (h : cp_sub x y) (h' : cp_sub y x) : x = y := by
  refine b_ext fun i _ => ?_
  rw [Bool.eq_iff_iff]
  exact ⟨h i, h' i⟩
theorem cp_subI (x y : Int32) : (x &&& (y ^^^ (-1))) = 0 ↔ cp_sub x y := by
  rw [cp_eq0]
  constructor
  · intro h i hi
    have z := h i
    rw [b_and, b_xor, b_m1 i (cp_lt32 hi), hi] at z
    revert z
    cases bt y i <;> simp
  · intro h i
    rw [b_and, b_xor]
    rcases Nat.lt_or_ge i 32 with z | z
    · rw [b_m1 i z]
      cases e : bt x i
      · rfl
      · rw [h i e]; rfl
    · rw [b_big (x := x) z]; rfl
theorem cp_mtI (x y : Int32) : ¬ (x &&& y) = 0 ↔ cp_mt x y := by
  rw [cp_eq0]
  constructor
  · intro h
    refine Classical.byContradiction fun hn => h fun i => ?_
    rw [b_and]
    cases e : bt x i
    · rfl
    · cases f : bt y i
      · rfl
      · exact absurd ⟨i, e, f⟩ hn
  · rintro ⟨i, e, f⟩ h
    have z := h i
    rw [b_and, e, f] at z
    exact absurd z (by decide)
theorem cp_b1 (i : Nat) : bt 1 i = decide (i = 0) := by
  rcases Nat.lt_or_ge i 32 with h | h
  · exact (by decide +kernel : ∀ i, i < 32 → bt 1 i = decide (i = 0)) i h
  · rw [b_big h, decide_eq_false (by omega)]
theorem cp_bitV (x : Int32) {s : Nat} (hs : s < 32) : ((x >>> (nI s &&& 31)) &&& 1) = if bt x s = true then 1 else 0 := by
  apply b_ext
  intro i _
  rw [b_and, cp_b1]
  rcases Nat.eq_zero_or_pos i with h | h
  · subst h
    rw [b_sshr s hs x (by decide), if_pos (by omega), Nat.add_zero]
    cases e : bt x s
    · rw [if_neg (by decide), b_0]; rfl
    · rw [if_pos rfl, cp_b1]; rfl
  · rw [decide_eq_false (by omega), Bool.and_false]
    cases e : bt x s
    · rw [if_neg (by decide), b_0]
    · rw [if_pos rfl, cp_b1, decide_eq_false (by omega)]
theorem cp_bit0 (x : Int32) {s : Nat} (hs : s < 32) : ((x >>> (nI s &&& 31)) &&& 1) = 0 ↔ ¬ bt x s = true := by
  rw [cp_bitV x hs]
  by_cases e : bt x s = true
  · rw [if_pos e]
    exact ⟨fun h => absurd h (by decide), fun h => absurd e h⟩
  · rw [if_neg e]
    exact ⟨fun _ => e, fun _ => rfl⟩
theorem cp_bit1 (x : Int32) {s : Nat} (hs : s < 32) : ((x >>> (nI s &&& 31)) &&& 1) = 1 ↔ bt x s = true := by
  rw [cp_bitV x hs]
  by_cases e : bt x s = true
  · rw [if_pos e]
    exact ⟨fun _ => e, fun _ => rfl⟩
  · rw [if_neg e]
    exact ⟨fun h => absurd h (by decide), fun h => absurd h e⟩
theorem cp_one {k : Nat} (hk : k < 32) (i : Nat) : bt ((1 : Int32) <<< (nI k &&& 31)) i = true ↔ i = k := by
  rcases Nat.lt_or_ge i 32 with hi | hi
  · rw [b_shl k hk 1 hi, cp_b1, Bool.and_eq_true, decide_eq_true_iff, decide_eq_true_iff]
    omega
  · rw [b_big hi]
    exact ⟨fun h => Bool.noConfusion h, fun h => absurd h (by omega)⟩
theorem cp_orT (x y : Int32) (i : Nat) : bt (x ||| y) i = true ↔ bt x i = true ∨ bt y i = true := by
  rw [b_or, Bool.or_eq_true]
theorem cp_btn (n : Nat) {i : Nat} (hi : i < 32) : bt (nI n) i = n.testBit i := by
  show (BitVec.ofNat 32 n).getLsbD i = _
  rw [BitVec.getLsbD_ofNat, decide_eq_true hi, Bool.true_and]
theorem cp_wn {n : Nat} (h : n < 256) : cp_w (nI n) := by
  intro i hi
  rcases Nat.lt_or_ge i 32 with z | z
  · rw [cp_btn n z]
    exact Nat.testBit_lt_two_pow (Nat.lt_of_lt_of_le h (Nat.pow_le_pow_right (by decide) hi : 2 ^ 8 ≤ 2 ^ i))
  · exact b_big z
theorem cp_nw {x : Int32} (h : cp_w x) : ∃ n, n < 256 ∧ x = nI n := by
  refine ⟨x.toBitVec.toNat, ?_, ?_⟩
  · exact Nat.lt_pow_two_of_testBit (n := 8) _ fun i hi => h i hi
  · apply Int32.toBitVec_inj.1
    show x.toBitVec = BitVec.ofNat 32 x.toBitVec.toNat
    simp
theorem cp_w0 : cp_w 0 := fun i _ => b_0 i
theorem cp_w255 : cp_w 255 := fun i h => by rw [b_255, decide_eq_false (by omega)]
theorem cp_sub255 {x : Int32} (w : cp_w x) : cp_sub x 255 := fun i h => by
  rw [b_255, decide_eq_true (cp_lt8 w h)]
theorem cp_sub_rfl (x : Int32) : cp_sub x x := fun _ h => h
theorem cp_sub_tr {x y z : Int32} (h : cp_sub x y) (h' : cp_sub y z) : cp_sub x z := fun i hi => h' i (h i hi)
theorem cp_mt_mono {x y z : Int32} (h : cp_mt x y) (h' : cp_sub y z) : cp_mt x z := by
  obtain ⟨i, e, f⟩ := h
  exact ⟨i, e, h' i f⟩
theorem cp_w_sub {x y : Int32} (h : cp_sub x y) (w : cp_w y) : cp_w x := fun i hi => cp_bf fun e => cp_tf (h i e) (w i hi)
theorem cp_ne0 {x : Int32} : ¬ x = 0 ↔ ∃ i, bt x i = true := by
  rw [cp_eq0]
  constructor
  · intro h
    refine Classical.byContradiction fun hn => h fun i => cp_bf fun e => hn ⟨i, e⟩
  · rintro ⟨i, e⟩ h
    exact cp_tf e (h i)
/-! counting members -/
def cp_cn (x : Int32) : Nat → Nat
  | 0 => 0
  | n + 1 => cp_cn x n + (if bt x n = true then 1 else 0)
theorem cp_cn_le (x : Int32) : ∀ n, cp_cn x n ≤ n := by
  intro n
  induction n with
  | zero => exact Nat.le_refl 0
  | succ n ih =>
    show cp_cn x n + (if bt x n = true then 1 else 0) ≤ n + 1
    by_cases e : bt x n = true
    · rw [if_pos e]; omega
    · rw [if_neg e]; omega
theorem cp_cn_mono {x y : Int32} (h : cp_sub x y) : ∀ n, cp_cn x n ≤ cp_cn y n := by
  intro n
  induction n with
  | zero => exact Nat.le_refl 0
  | succ n ih =>
    show cp_cn x n + (if bt x n = true then 1 else 0) ≤ cp_cn y n + (if bt y n = true then 1 else 0)
    by_cases e : bt x n = true
    · rw [if_pos e, if_pos (h n e)]; omega
    · rw [if_neg e]; omega
theorem cp_cn_lt {x y : Int32} (h : cp_sub x y) {i : Nat} (hx : ¬ bt x i = true) (hy : bt y i = true) : ∀ n, i < n → cp_cn x n < cp_cn y n := by
  intro n
  induction n with
  | zero => intro hi; omega
  | succ n ih =>
    intro hi
    show cp_cn x n + (if bt x n = true then 1 else 0) < cp_cn y n + (if bt y n = true then 1 else 0)
    have m := cp_cn_mono h n
    by_cases e : i = n
    · subst e
      rw [if_neg hx, if_pos hy]; omega
    · have l := ih (by omega)
      by_cases e : bt x n = true
      · rw [if_pos e, if_pos (h n e)]; omega
      · rw [if_neg e]; omega
theorem cp_grow {x y : Int32} (h : cp_sub x y) (w : cp_w y) (ne : ¬ y = x) : cp_cn x 8 < cp_cn y 8 := by
  have : ∃ i, ¬ bt x i = true ∧ bt y i = true := by
    refine Classical.byContradiction fun hn => ne (cp_anti ?_ h)
    intro i hi
    exact Classical.byContradiction fun e => hn ⟨i, e, hi⟩
  obtain ⟨i, e, f⟩ := this
  exact cp_cn_lt h e f 8 (cp_lt8 w f)
theorem cp_cn_pos {x : Int32} {i : Nat} (hx : bt x i = true) : ∀ n, i < n → 0 < cp_cn x n := by
  intro n hi
  have h : cp_sub 0 x := fun j hj => (cp_tf hj (b_0 j)).elim
  have l := cp_cn_lt h (fun e => cp_tf e (b_0 i)) hx n hi
  omega
theorem cp_cn0 {x : Int32} (w : cp_w x) (h : cp_cn x 8 = 0) : x = 0 := by
  refine Classical.byContradiction fun ne => ?_
  obtain ⟨i, e⟩ := cp_ne0.mp ne
  have := cp_cn_pos e 8 (cp_lt8 w e)
  omega
end
section
/-! iterates that grow or fall come to a stop -/
def cp_it (f : Int32 → Int32) (x : Int32) : Nat → Int32
  | 0 => x
  | n + 1 => f (cp_it f x n)
theorem cp_it_s (f : Int32 → Int32) (x : Int32) (n : Nat) : cp_it f x (n + 1) = f (cp_it f x n) := rfl
theorem cp_seq (f : Int32 → Int32) (μ : Int32 → Nat) (x : Int32) (h : ∀ n, cp_it f x (n + 1) = cp_it f x n ∨ μ (cp_it f x (n + 1)) < μ (cp_it f x n)) :
    ∀ n, cp_it f x (n + 1) = cp_it f x n ∨ μ (cp_it f x (n + 1)) + (n + 1) ≤ μ x := by
  intro n
  induction n with
  | zero =>
    rcases h 0 with e | e
    · exact Or.inl e
    · have e' : μ (cp_it f x (0 + 1)) < μ x := e
      exact Or.inr (by omega)
  | succ n ih =>
    rcases ih with e | e
    · exact Or.inl (congrArg f e)
    · rcases h (n + 1) with c | c
      · exact Or.inl c
      · exact Or.inr (by omega)
theorem cp_stop {f : Int32 → Int32} {x : Int32} {n : Nat} (h : cp_it f x (n + 1) = cp_it f x n) : ∀ m, n ≤ m → cp_it f x m = cp_it f x n := by
  intro m
  induction m with
  | zero =>
    intro hm
    have : n = 0 := by omega
    rw [this]
  | succ m ih =>
    intro hm
    by_cases e : n = m + 1
    · rw [e]
    · have i := ih (by omega)
      show f (cp_it f x m) = _
      rw [i]
      exact h
theorem cp_it_w {f : Int32 → Int32} (hw : ∀ x, cp_w x → cp_w (f x)) {x : Int32} (w : cp_w x) : ∀ n, cp_w (cp_it f x n) := by
  intro n
  induction n with
  | zero => exact w
  | succ n ih => exact hw _ ih
theorem cp_it_up {f : Int32 → Int32} (hi : ∀ x, cp_sub x (f x)) (x : Int32) : ∀ m n, n ≤ m → cp_sub (cp_it f x n) (cp_it f x m) := by
  intro m
  induction m with
  | zero =>
    intro n hn
    have : n = 0 := by omega
    rw [this]
    exact cp_sub_rfl _
  | succ m ih =>
    intro n hn
    by_cases e : n = m + 1
    · rw [e]
      exact cp_sub_rfl _
    · exact cp_sub_tr (ih n (by omega)) (hi _)
theorem cp_it_0 {f : Int32 → Int32} (h0 : f 0 = 0) : ∀ n, cp_it f 0 n = 0 := by
  intro n
  induction n with
  | zero => rfl
  | succ n ih =>
    show f (cp_it f 0 n) = 0
    rw [ih, h0]
theorem cp_lev {f : Int32 → Int32} (hi : ∀ x, cp_sub x (f x)) (hw : ∀ x, cp_w x → cp_w (f x)) (h0 : f 0 = 0) {g : Int32} (wg : cp_w g) : cp_it f g (7 + 1) = cp_it f g 7 := by
  have q := cp_seq f (fun y => 8 - cp_cn y 8) g (fun n => by
    by_cases e : cp_it f g (n + 1) = cp_it f g n
    · exact Or.inl e
    · refine Or.inr ?_
      have l := cp_grow (hi (cp_it f g n)) (cp_it_w hw wg (n + 1)) e
      have b := cp_cn_le (cp_it f g (n + 1)) 8
      have l' : cp_cn (cp_it f g n) 8 < cp_cn (cp_it f g (n + 1)) 8 := l
      show 8 - cp_cn (cp_it f g (n + 1)) 8 < 8 - cp_cn (cp_it f g n) 8
      omega) 7
  rcases q with e | e
  · exact e
  · have e' : 8 - cp_cn (cp_it f g (7 + 1)) 8 + (7 + 1) ≤ 8 - cp_cn g 8 := e
    have z : cp_cn g 8 = 0 := by omega
    rw [cp_cn0 wg z, cp_it_0 h0, cp_it_0 h0]
/-! one step back -/
def cp_ok (al re o : Int32) : Prop := cp_sub o al ∧ cp_mt o re
def cp_st (a : Nat → Int32) (al re : Int32) : Nat → Int32
  | 0 => re
  | n + 1 => if (a n &&& (al ^^^ (-1))) = 0 ∧ ¬ (a n &&& re) = 0 then cp_st a al re n ||| ((1 : Int32) <<< (nI (n / 3) &&& 31)) else cp_st a al re n
theorem cp_st_s (a : Nat → Int32) (al re : Int32) (n : Nat) : cp_st a al re (n + 1) = if (a n &&& (al ^^^ (-1))) = 0 ∧ ¬ (a n &&& re) = 0 then cp_st a al re n ||| ((1 : Int32) <<< (nI (n / 3) &&& 31)) else cp_st a al re n := rfl
def cp_T (a : Nat → Int32) (al re : Int32) : Int32 := cp_st a al re 24
theorem cp_okI (al re o : Int32) : ((o &&& (al ^^^ (-1))) = 0 ∧ ¬ (o &&& re) = 0) ↔ cp_ok al re o := by
  rw [cp_subI, cp_mtI]
  exact Iff.rfl
theorem cp_st_bt (a : Nat → Int32) (al re : Int32) (s : Nat) : ∀ n, n ≤ 24 → (bt (cp_st a al re n) s = true ↔ bt re s = true ∨ ∃ k, k < n ∧ k / 3 = s ∧ cp_ok al re (a k)) := by
  intro n
  induction n with
  | zero =>
    intro _
    exact ⟨fun h => Or.inl h, fun h => h.elim id (fun ⟨k, hk, _⟩ => absurd hk (by omega))⟩
  | succ n ih =>
    intro hn
    have i := ih (by omega)
    rw [cp_st_s]
    by_cases c : (a n &&& (al ^^^ (-1))) = 0 ∧ ¬ (a n &&& re) = 0
    · rw [if_pos c, cp_orT, cp_one (by omega), i]
      have o := (cp_okI al re (a n)).mp c
      constructor
      · rintro ((h | ⟨k, hk, e, ho⟩) | h)
        · exact Or.inl h
        · exact Or.inr ⟨k, by omega, e, ho⟩
        · exact Or.inr ⟨n, by omega, h.symm, o⟩
      · rintro (h | ⟨k, hk, e, ho⟩)
        · exact Or.inl (Or.inl h)
        · by_cases ek : k = n
          · exact Or.inr (by rw [← e, ek])
          · exact Or.inl (Or.inr ⟨k, by omega, e, ho⟩)
    · rw [if_neg c, i]
      have o : ¬ cp_ok al re (a n) := fun h => c ((cp_okI al re (a n)).mpr h)
      constructor
      · rintro (h | ⟨k, hk, e, ho⟩)
        · exact Or.inl h
        · exact Or.inr ⟨k, by omega, e, ho⟩
      · rintro (h | ⟨k, hk, e, ho⟩)
        · exact Or.inl h
        · by_cases ek : k = n
          · rw [ek] at ho
            exact absurd ho o
          · exact Or.inr ⟨k, by omega, e, ho⟩
theorem cp_T_bt (a : Nat → Int32) (al re : Int32) (s : Nat) : bt (cp_T a al re) s = true ↔ bt re s = true ∨ ∃ k, k < 24 ∧ k / 3 = s ∧ cp_ok al re (a k) :=
  cp_st_bt a al re s 24 (by omega)
theorem cp_T_up (a : Nat → Int32) (al re : Int32) : cp_sub re (cp_T a al re) := fun s h => (cp_T_bt a al re s).mpr (Or.inl h)
theorem cp_T_w {a : Nat → Int32} {al re : Int32} (w : cp_w re) : cp_w (cp_T a al re) := by
  intro i hi
  refine cp_bf fun e => ?_
  rcases (cp_T_bt a al re i).mp e with h | ⟨k, hk, ek, _⟩
  · exact cp_tf h (w i hi)
  · omega
theorem cp_T_0 (a : Nat → Int32) (al : Int32) : cp_T a al 0 = 0 := by
  rw [cp_eq0]
  intro i
  refine cp_bf fun e => ?_
  rcases (cp_T_bt a al 0 i).mp e with h | ⟨k, hk, ek, _, j, _, hj⟩
  · exact cp_tf h (b_0 i)
  · exact cp_tf hj (b_0 j)
theorem cp_ok_mono {al al' re re' o : Int32} (h : cp_ok al re o) (h1 : cp_sub al al') (h2 : cp_sub re re') : cp_ok al' re' o :=
  ⟨cp_sub_tr h.1 h1, cp_mt_mono h.2 h2⟩
theorem cp_T_mono (a : Nat → Int32) {al al' re re' : Int32} (h1 : cp_sub al al') (h2 : cp_sub re re') : cp_sub (cp_T a al re) (cp_T a al' re') := by
  intro s h
  rcases (cp_T_bt a al re s).mp h with h | ⟨k, hk, e, ho⟩
  · exact (cp_T_bt a al' re' s).mpr (Or.inl (h2 s h))
  · exact (cp_T_bt a al' re' s).mpr (Or.inr ⟨k, hk, e, cp_ok_mono ho h1 h2⟩)
/-! the levels: b for 'all outcomes count' -/
def cp_al (b : Bool) (r : Int32) : Int32 := cond b r 255
def cp_f (a : Nat → Int32) (b : Bool) (r : Int32) : Int32 := cp_T a (cp_al b r) r
def cp_L (a : Nat → Int32) (g : Int32) (b : Bool) (n : Nat) : Int32 := cp_it (cp_f a b) g n
theorem cp_L_up (a : Nat → Int32) (g : Int32) (b : Bool) {n m : Nat} (h : n ≤ m) : cp_sub (cp_L a g b n) (cp_L a g b m) :=
  cp_it_up (f := cp_f a b) (fun x => cp_T_up a _ x) g m n h
theorem cp_L_w (a : Nat → Int32) {g : Int32} (w : cp_w g) (b : Bool) (n : Nat) : cp_w (cp_L a g b n) :=
  cp_it_w (f := cp_f a b) (fun _ hx => cp_T_w hx) w n
theorem cp_L_7 (a : Nat → Int32) {g : Int32} (w : cp_w g) (b : Bool) : ∀ m, 7 ≤ m → cp_L a g b m = cp_L a g b 7 :=
  cp_stop (f := cp_f a b) (x := g) (n := 7) (cp_lev (f := cp_f a b) (fun x => cp_T_up a _ x) (fun _ hx => cp_T_w hx) (cp_T_0 a _) w)
theorem cp_L_n (a : Nat → Int32) (g : Int32) (b : Bool) (n : Nat) : cp_L a g b (n + 1) = cp_f a b (cp_L a g b n) := cp_it_s (cp_f a b) g n
theorem cp_f_T (a : Nat → Int32) (b : Bool) (r : Int32) : cp_f a b r = cp_T a (cp_al b r) r := rfl
theorem cp_L_s (a : Nat → Int32) (g : Int32) (b : Bool) (n s : Nat) : bt (cp_L a g b (n + 1)) s = true ↔ bt (cp_L a g b n) s = true ∨ ∃ k, k < 24 ∧ k / 3 = s ∧ cp_ok (cp_al b (cp_L a g b n)) (cp_L a g b n) (a k) := by
  rw [cp_L_n, cp_f_T]
  exact cp_T_bt a _ _ s
/-! what is kept safe -/
def cp_F (a : Nat → Int32) (g S : Int32) : Int32 := cp_it (cp_T a S) g 8
def cp_K (a : Nat → Int32) (g : Int32) (n : Nat) : Int32 := cp_it (cp_F a g) 255 n
theorem cp_F_w (a : Nat → Int32) {g : Int32} (w : cp_w g) (S : Int32) : cp_w (cp_F a g S) := cp_it_w (f := cp_T a S) (fun _ hx => cp_T_w hx) w 8
theorem cp_F_g (a : Nat → Int32) (g S : Int32) : cp_sub g (cp_F a g S) := cp_it_up (f := cp_T a S) (fun x => cp_T_up a S x) g 8 0 (by omega)
theorem cp_F_lev (a : Nat → Int32) (g S : Int32) {r : Nat} (h : r ≤ 8) : cp_sub (cp_it (cp_T a S) g r) (cp_F a g S) := cp_it_up (f := cp_T a S) (fun x => cp_T_up a S x) g 8 r h
theorem cp_F_it_mono (a : Nat → Int32) (g : Int32) {S S' : Int32} (h : cp_sub S S') : ∀ n, cp_sub (cp_it (cp_T a S) g n) (cp_it (cp_T a S') g n) := by
  intro n
  induction n with
  | zero => exact cp_sub_rfl _
  | succ n ih =>
    rw [cp_it_s, cp_it_s]
    exact cp_T_mono a h ih
theorem cp_F_mono (a : Nat → Int32) (g : Int32) {S S' : Int32} (h : cp_sub S S') : cp_sub (cp_F a g S) (cp_F a g S') := cp_F_it_mono a g h 8
theorem cp_F_cl (a : Nat → Int32) {g : Int32} (w : cp_w g) (S : Int32) : cp_T a S (cp_F a g S) = cp_F a g S := by
  have h := cp_lev (f := cp_T a S) (fun x => cp_T_up a S x) (fun _ hx => cp_T_w hx) (cp_T_0 a S) w
  have h9 := cp_stop h 9 (by omega)
  have h8 := cp_stop h 8 (by omega)
  unfold cp_F
  rw [← cp_it_s (cp_T a S) g 8]
  exact h9.trans h8.symm
theorem cp_K_s (a : Nat → Int32) (g : Int32) (n : Nat) : cp_K a g (n + 1) = cp_F a g (cp_K a g n) := cp_it_s (cp_F a g) 255 n
theorem cp_K_0 (a : Nat → Int32) (g : Int32) : cp_K a g 0 = 255 := rfl
theorem cp_K_fall (a : Nat → Int32) {g : Int32} (w : cp_w g) : ∀ n, cp_sub (cp_K a g (n + 1)) (cp_K a g n) := by
  intro n
  induction n with
  | zero =>
    rw [cp_K_s, cp_K_0]
    exact cp_sub255 (cp_F_w a w 255)
  | succ n ih =>
    have h := cp_F_mono a g ih
    rw [← cp_K_s, ← cp_K_s] at h
    exact h
theorem cp_K_w (a : Nat → Int32) {g : Int32} (w : cp_w g) : ∀ n, cp_w (cp_K a g n) := cp_it_w (f := cp_F a g) (fun x _ => cp_F_w a w x) cp_w255
theorem cp_K_8 (a : Nat → Int32) {g : Int32} (w : cp_w g) : cp_F a g (cp_K a g 8) = cp_K a g 8 := by
  have q := cp_seq (cp_F a g) (fun y => cp_cn y 8) 255 (fun n => by
    by_cases e : cp_it (cp_F a g) 255 (n + 1) = cp_it (cp_F a g) 255 n
    · exact Or.inl e
    · exact Or.inr (cp_grow (cp_K_fall a w n) (cp_K_w a w n) (fun z => e z.symm))) 8
  rcases q with e | e
  · rw [← cp_K_s]
    exact e
  · have e' : cp_cn (cp_it (cp_F a g) 255 (8 + 1)) 8 + (8 + 1) ≤ cp_cn 255 8 := e
    have b := cp_cn_le 255 8
    omega
theorem cp_K_in (a : Nat → Int32) (g : Int32) {S : Int32} (w : cp_w S) (h : cp_sub S (cp_F a g S)) : ∀ n, cp_sub S (cp_K a g n) := by
  intro n
  induction n with
  | zero =>
    rw [cp_K_0]
    exact cp_sub255 w
  | succ n ih =>
    rw [cp_K_s]
    exact cp_sub_tr h (cp_F_mono a g ih)
theorem cp_K_g (a : Nat → Int32) {g : Int32} (w : cp_w g) : cp_sub g (cp_K a g 8) := by
  rw [← cp_K_8 a w]
  exact cp_F_g a g _
end
section
/-! the reference's outcome -/
def cp_Q (b : Bool) (o : Int32) (P : Nat → Prop) : Prop := (∃ i, bt o i = true ∧ P i) ∧ (b = true → ∀ i, bt o i = true → P i)
theorem cp_Q_mono {b : Bool} {o : Int32} {P P' : Nat → Prop} (h : ∀ i, bt o i = true → P i → P' i) (q : cp_Q b o P) : cp_Q b o P' := by
  obtain ⟨⟨i, hi, pi⟩, q2⟩ := q
  exact ⟨⟨i, hi, h i hi pi⟩, fun e i hi => h i hi (q2 e i hi)⟩
theorem cp_QI {b : Bool} {o x : Int32} (w : cp_w o) : cp_Q b o (fun i => bt x i = true) ↔ cp_ok (cp_al b x) x o := by
  cases b
  · constructor
    · rintro ⟨h, _⟩
      exact ⟨cp_sub255 w, h⟩
    · rintro ⟨_, h⟩
      exact ⟨h, fun e => Bool.noConfusion e⟩
  · constructor
    · rintro ⟨h, h2⟩
      exact ⟨h2 rfl, h⟩
    · rintro ⟨h2, h⟩
      exact ⟨h, fun _ => h2⟩
def cp_mo (o : Int32) (d : Nat → Nat) (i : Nat) (mo : Int32) : Prop :=
  (mo = -1 ∧ ∀ s, s < i → ¬ bt o s = true) ∨ ∃ m, m ≤ 99 ∧ mo = nI m ∧ (∃ s, s < i ∧ bt o s = true ∧ d s = m) ∧ ∀ s, s < i → bt o s = true → d s ≤ m
def cp_le (o : Int32) (d : Nat → Nat) (i : Nat) (le : Int32) : Prop :=
  ∃ l, l ≤ 99 ∧ le = nI l ∧ (∀ s, s < i → bt o s = true → l ≤ d s) ∧ (l = 99 ∨ ∃ s, s < i ∧ bt o s = true ∧ d s = l)
theorem cp_nm1 {m : Nat} (h : m < 2 ^ 31) : ¬ nI m ≤ -1 := by
  rw [Int32.le_iff_toInt_le, nI_toInt h]
  have e : (-1 : Int32).toInt = -1 := by decide
  rw [e]
  omega
theorem cp_mo_n {o : Int32} {d : Nat → Nat} {i : Nat} {mo : Int32} (h : ¬ bt o i = true) (H : cp_mo o d i mo) : cp_mo o d (i + 1) mo := by
  rcases H with ⟨e, H⟩ | ⟨m, hm, e, ⟨s, hs, b1, b2⟩, H⟩
  · refine Or.inl ⟨e, fun s hs => ?_⟩
    by_cases z : s = i
    · rw [z]; exact h
    · exact H s (by omega)
  · refine Or.inr ⟨m, hm, e, ⟨s, by omega, b1, b2⟩, fun t ht bt' => ?_⟩
    by_cases z : t = i
    · rw [z] at bt'
      exact absurd bt' h
    · exact H t (by omega) bt'
theorem cp_mo_up {o : Int32} {d : Nat → Nat} {i : Nat} {mo : Int32} (h : bt o i = true) (hd : d i ≤ 99) (c : ¬ nI (d i) ≤ mo) (H : cp_mo o d i mo) : cp_mo o d (i + 1) (nI (d i)) := by
  refine Or.inr ⟨d i, hd, rfl, ⟨i, by omega, h, rfl⟩, fun t ht bt' => ?_⟩
  by_cases z : t = i
  · rw [z]; exact Nat.le_refl _
  · rcases H with ⟨e, H⟩ | ⟨m, hm, e, _, H⟩
    · exact absurd bt' (H t (by omega))
    · have := H t (by omega) bt'
      rw [e, nI_leI (by omega) (by omega)] at c
      omega
theorem cp_mo_st {o : Int32} {d : Nat → Nat} {i : Nat} {mo : Int32} (hd : d i ≤ 99) (c : nI (d i) ≤ mo) (H : cp_mo o d i mo) : cp_mo o d (i + 1) mo := by
  rcases H with ⟨e, H⟩ | ⟨m, hm, e, ⟨s, hs, b1, b2⟩, H⟩
  · rw [e] at c
    exact absurd c (cp_nm1 (by omega))
  · refine Or.inr ⟨m, hm, e, ⟨s, by omega, b1, b2⟩, fun t ht bt' => ?_⟩
    by_cases z : t = i
    · rw [e, nI_leI (by omega) (by omega)] at c
      rw [z]; exact c
    · exact H t (by omega) bt'
theorem cp_le_n {o : Int32} {d : Nat → Nat} {i : Nat} {le : Int32} (h : ¬ bt o i = true) (H : cp_le o d i le) : cp_le o d (i + 1) le := by
  obtain ⟨l, hl, e, H1, H2⟩ := H
  refine ⟨l, hl, e, fun t ht bt' => ?_, H2.elim Or.inl (fun ⟨s, hs, b1, b2⟩ => Or.inr ⟨s, by omega, b1, b2⟩)⟩
  by_cases z : t = i
  · rw [z] at bt'
    exact absurd bt' h
  · exact H1 t (by omega) bt'
theorem cp_le_dn {o : Int32} {d : Nat → Nat} {i : Nat} {le : Int32} (h : bt o i = true) (hd : d i ≤ 99) (c : ¬ le ≤ nI (d i)) (H : cp_le o d i le) : cp_le o d (i + 1) (nI (d i)) := by
  obtain ⟨l, hl, e, H1, H2⟩ := H
  rw [e, nI_leI (by omega) (by omega)] at c
  refine ⟨d i, hd, rfl, fun t ht bt' => ?_, Or.inr ⟨i, by omega, h, rfl⟩⟩
  by_cases z : t = i
  · rw [z]; exact Nat.le_refl _
  · have := H1 t (by omega) bt'
    omega
theorem cp_le_st {o : Int32} {d : Nat → Nat} {i : Nat} {le : Int32} (hd : d i ≤ 99) (c : le ≤ nI (d i)) (H : cp_le o d i le) : cp_le o d (i + 1) le := by
  obtain ⟨l, hl, e, H1, H2⟩ := H
  rw [e, nI_leI (by omega) (by omega)] at c
  refine ⟨l, hl, e, fun t ht bt' => ?_, H2.elim Or.inl (fun ⟨s, hs, b1, b2⟩ => Or.inr ⟨s, by omega, b1, b2⟩)⟩
  by_cases z : t = i
  · rw [z]; exact c
  · exact H1 t (by omega) bt'
/-- what outcome answers: n counts as the outcomes' own numbers do -/
def cp_out (b : Bool) (o : Int32) (d : Nat → Nat) (r : Int32) : Prop := ∃ n, n ≤ 99 ∧ r = nI n ∧ ∀ j, j < 99 → (n ≤ j ↔ cp_Q b o (fun i => d i ≤ j))
theorem cp_out_le {o : Int32} {d : Nat → Nat} {le : Int32} (w : cp_w o) (H : cp_le o d 8 le) : cp_out false o d le := by
  obtain ⟨l, hl, e, H1, H2⟩ := H
  refine ⟨l, hl, e, fun j hj => ⟨fun h => ?_, fun q => ?_⟩⟩
  · rcases H2 with z | ⟨s, hs, b1, b2⟩
    · omega
    · exact ⟨⟨s, b1, by show d s ≤ j; omega⟩, fun e => Bool.noConfusion e⟩
  · obtain ⟨⟨i, b1, b2⟩, _⟩ := q
    have b3 : d i ≤ j := b2
    have := H1 i (cp_lt8 w b1) b1
    omega
theorem cp_out_mo {o : Int32} {d : Nat → Nat} {mo : Int32} (w : cp_w o) (c : ¬ mo < 0) (H : cp_mo o d 8 mo) : cp_out true o d mo := by
  rcases H with ⟨e, H⟩ | ⟨m, hm, e, ⟨s, hs, b1, b2⟩, H⟩
  · rw [e] at c
    exact absurd c (by decide)
  · refine ⟨m, hm, e, fun j hj => ⟨fun h => ?_, fun q => ?_⟩⟩
    · exact ⟨⟨s, b1, by show d s ≤ j; omega⟩, fun _ i hi => Nat.le_trans (H i (cp_lt8 w hi) hi) h⟩
    · have b3 : d s ≤ j := q.2 rfl s b1
      omega
theorem cp_out_em {o : Int32} {d : Nat → Nat} {mo le : Int32} (w : cp_w o) (c : mo < 0) (H : cp_mo o d 8 mo) (H' : cp_le o d 8 le) : cp_out true o d le := by
  rcases H with ⟨e, H⟩ | ⟨m, hm, e, ⟨s, hs, b1, b2⟩, H⟩
  · obtain ⟨l, hl, e', H1, H2⟩ := H'
    refine ⟨l, hl, e', fun j hj => ⟨fun h => ?_, fun q => ?_⟩⟩
    · rcases H2 with z | ⟨s, hs, b1, b2⟩
      · omega
      · exact absurd b1 (H s hs)
    · obtain ⟨⟨i, b1, b2⟩, _⟩ := q
      exact absurd b1 (H i (cp_lt8 w b1))
  · rw [e] at c
    exact absurd c (nI_pos (by omega))
/-! the reference's count -/
def cp_Snd (a : Nat → Int32) (g : Int32) (b : Bool) (d : Nat → Nat) : Prop := ∀ s j, s < 8 → j < 99 → d s ≤ j → bt (cp_L a g b j) s = true
def cp_Cmp (a : Nat → Int32) (g : Int32) (b : Bool) (r m : Nat) (d : Nat → Nat) : Prop :=
  (∀ j, j ≤ r → ∀ s, s < 8 → bt (cp_L a g b j) s = true → d s ≤ j) ∧ ∀ k, k < m → cp_ok (cp_al b (cp_L a g b r)) (cp_L a g b r) (a k) → d (k / 3) ≤ r + 1
def cp_up (d : Nat → Nat) (s v : Nat) : Nat → Nat := fun i => if i = s then v else d i
theorem cp_up_s (d : Nat → Nat) (s v : Nat) : cp_up d s v s = v := if_pos rfl
theorem cp_up_n (d : Nat → Nat) {s i : Nat} (v : Nat) (h : ¬ i = s) : cp_up d s v i = d i := if_neg h
theorem cp_up_le {d : Nat → Nat} {s v : Nat} (h : v < d s) (i : Nat) : cp_up d s v i ≤ d i := by
  by_cases e : i = s
  · rw [e, cp_up_s]; omega
  · rw [cp_up_n d v e]; exact Nat.le_refl _
theorem cp_c0 (a : Nat → Int32) (g : Int32) (b : Bool) {d : Nat → Nat} (h : ∀ s, s < 8 → d s = if bt g s = true then 0 else 99) : cp_Snd a g b d ∧ cp_Cmp a g b 0 0 d := by
  refine ⟨fun s j hs hj hd => ?_, fun j hj s hs e => ?_, fun k hk => absurd hk (by omega)⟩
  · by_cases e : bt g s = true
    · exact cp_L_up a g b (Nat.zero_le j) s e
    · rw [h s hs, if_neg e] at hd
      omega
  · have z : j = 0 := by omega
    subst z
    have e' : bt g s = true := e
    rw [h s hs, if_pos e']
    exact Nat.le_refl 0
theorem cp_cs1 {a : Nat → Int32} {g : Int32} {b : Bool} {d : Nat → Nat} {k n : Nat} (hw : cp_w (a k)) (hk : k < 24) (hn : ∀ j, j < 99 → (n ≤ j ↔ cp_Q b (a k) (fun i => d i ≤ j))) (S : cp_Snd a g b d) {j : Nat} (h : n + 1 ≤ j) (hj : j < 99) : bt (cp_L a g b j) (k / 3) = true := by
  obtain ⟨i, rfl⟩ : ∃ i, j = i + 1 := ⟨j - 1, by omega⟩
  have q := (hn i (by omega)).mp (by omega)
  have q' : cp_Q b (a k) (fun t => bt (cp_L a g b i) t = true) := cp_Q_mono (fun t ht hd => S t i (cp_lt8 hw ht) (by omega) hd) q
  exact (cp_L_s a g b i (k / 3)).mpr (Or.inr ⟨k, hk, rfl, (cp_QI hw).mp q'⟩)
theorem cp_cs2 {a : Nat → Int32} {g : Int32} {b : Bool} {d : Nat → Nat} {k n r m : Nat} (hw : cp_w (a k)) (hr : r < 8) (hn : ∀ j, j < 99 → (n ≤ j ↔ cp_Q b (a k) (fun i => d i ≤ j))) (C : cp_Cmp a g b r m d) (h : cp_ok (cp_al b (cp_L a g b r)) (cp_L a g b r) (a k)) : n ≤ r := by
  refine (hn r (by omega)).mpr ?_
  exact cp_Q_mono (fun t ht e => C.1 r (Nat.le_refl r) t (cp_lt8 hw ht) e) ((cp_QI hw).mpr h)
theorem cp_cup {a : Nat → Int32} {g : Int32} {b : Bool} {d : Nat → Nat} {k n r : Nat} (hw : cp_w (a k)) (hk : k < 24) (hr : r < 8) (hn : ∀ j, j < 99 → (n ≤ j ↔ cp_Q b (a k) (fun i => d i ≤ j))) (S : cp_Snd a g b d) (C : cp_Cmp a g b r k d) (c : n + 1 < d (k / 3)) :
    cp_Snd a g b (cp_up d (k / 3) (n + 1)) ∧ cp_Cmp a g b r (k + 1) (cp_up d (k / 3) (n + 1)) := by
  refine ⟨fun s j hs hj hd => ?_, fun j hj s hs e => ?_, fun k' hk' o => ?_⟩
  · by_cases z : s = k / 3
    · rw [z, cp_up_s] at hd
      rw [z]
      exact cp_cs1 hw hk hn S hd hj
    · rw [cp_up_n d _ z] at hd
      exact S s j hs hj hd
  · exact Nat.le_trans (cp_up_le c s) (C.1 j hj s hs e)
  · by_cases z : k' = k
    · rw [z] at o
      have := cp_cs2 hw hr hn C o
      rw [z, cp_up_s]
      omega
    · exact Nat.le_trans (cp_up_le c _) (C.2 k' (by omega) o)
theorem cp_cst {a : Nat → Int32} {g : Int32} {b : Bool} {d : Nat → Nat} {k n r : Nat} (hw : cp_w (a k)) (hr : r < 8) (hn : ∀ j, j < 99 → (n ≤ j ↔ cp_Q b (a k) (fun i => d i ≤ j))) (C : cp_Cmp a g b r k d) (c : ¬ n + 1 < d (k / 3)) : cp_Cmp a g b r (k + 1) d := by
  refine ⟨C.1, fun k' hk' o => ?_⟩
  by_cases z : k' = k
  · rw [z] at o
    have := cp_cs2 hw hr hn C o
    rw [z]
    omega
  · exact C.2 k' (by omega) o
theorem cp_crd {a : Nat → Int32} {g : Int32} {b : Bool} {d : Nat → Nat} {r : Nat} (C : cp_Cmp a g b r 24 d) : cp_Cmp a g b (r + 1) 0 d := by
  refine ⟨fun j hj s hs e => ?_, fun k hk => absurd hk (by omega)⟩
  by_cases z : j = r + 1
  · rw [z] at e
    rcases (cp_L_s a g b r s).mp e with e | ⟨k, hk, ek, o⟩
    · have := C.1 r (Nat.le_refl r) s hs e
      omega
    · have := C.2 k hk o
      rw [ek] at this
      omega
  · exact C.1 j (by omega) s hs e
/-- what count leaves -/
def cp_far (a : Nat → Int32) (g : Int32) (b : Bool) (d : Nat → Nat) : Prop := ∀ j, j < 99 → ∀ s, s < 8 → (d s ≤ j ↔ bt (cp_L a g b j) s = true)
theorem cp_fin {a : Nat → Int32} {g : Int32} {b : Bool} {d : Nat → Nat} (w : cp_w g) (S : cp_Snd a g b d) (C : cp_Cmp a g b 8 0 d) : cp_far a g b d := by
  intro j hj s hs
  refine ⟨fun h => S s j hs hj h, fun e => ?_⟩
  rcases Nat.lt_or_ge 8 j with z | z
  · rw [cp_L_7 a w b j (by omega), ← cp_L_7 a w b 8 (by omega)] at e
    have := C.1 8 (Nat.le_refl 8) s hs e
    omega
  · exact C.1 j z s hs e
theorem cp_far98 {a : Nat → Int32} {g : Int32} {b : Bool} {d : Nat → Nat} (w : cp_w g) (H : cp_far a g b d) {s : Nat} (hs : s < 8) : d s < 99 ↔ bt (cp_L a g b 8) s = true := by
  rw [cp_L_7 a w b 8 (by omega), ← cp_L_7 a w b 98 (by omega), ← H 98 (by omega) s hs]
  omega
/-! the reference's keeps -/
def cp_Lo (a : Nat → Int32) (g S : Int32) (r m : Nat) (near : Int32) : Prop :=
  cp_F a g S = S → cp_sub (cp_it (cp_T a S) g r) near ∧ ∀ k, k < m → cp_ok S (cp_it (cp_T a S) g r) (a k) → bt near (k / 3) = true
theorem cp_k0 (a : Nat → Int32) (g S : Int32) : cp_sub g (cp_F a g S) ∧ cp_Lo a g S 0 0 g :=
  ⟨cp_F_g a g S, fun _ => ⟨cp_sub_rfl _, fun k hk => absurd hk (by omega)⟩⟩
theorem cp_kstep {a : Nat → Int32} {g S near near' : Int32} {k r : Nat} (w : cp_w g) (hk : k < 24) (hr : r < 8) (U : cp_sub near (cp_F a g S)) (L : cp_Lo a g S r k near)
    (h : ∀ s, bt near' s = true ↔ bt near s = true ∨ (s = k / 3 ∧ bt S (k / 3) = true ∧ cp_ok S near (a k))) : cp_sub near' (cp_F a g S) ∧ cp_Lo a g S r (k + 1) near' := by
  constructor
  · intro s e
    rcases (h s).mp e with e | ⟨e, _, o⟩
    · exact U s e
    · rw [← cp_F_cl a w S]
      exact (cp_T_bt a S _ s).mpr (Or.inr ⟨k, hk, e.symm, cp_ok_mono o (cp_sub_rfl S) U⟩)
  · intro fS
    obtain ⟨L1, L2⟩ := L fS
    refine ⟨fun s e => (h s).mpr (Or.inl (L1 s e)), fun k' hk' o => ?_⟩
    by_cases z : k' = k
    · rw [z] at o ⊢
      refine (h _).mpr (Or.inr ⟨rfl, ?_, cp_ok_mono o (cp_sub_rfl S) L1⟩)
      have e : bt (cp_it (cp_T a S) g (r + 1)) (k / 3) = true := by
        rw [cp_it_s]
        exact (cp_T_bt a S _ _).mpr (Or.inr ⟨k, hk, rfl, o⟩)
      have e' := cp_F_lev a g S (r := r + 1) (by omega) _ e
      rw [fS] at e'
      exact e'
    · exact (h _).mpr (Or.inl (L2 k' (by omega) o))
theorem cp_krd {a : Nat → Int32} {g S near : Int32} {r : Nat} (L : cp_Lo a g S r 24 near) : cp_Lo a g S (r + 1) 0 near := by
  intro fS
  obtain ⟨L1, L2⟩ := L fS
  refine ⟨fun s e => ?_, fun k hk => absurd hk (by omega)⟩
  rw [cp_it_s] at e
  rcases (cp_T_bt a S _ s).mp e with e | ⟨k, hk, ek, o⟩
  · exact L1 s e
  · rw [← ek]
    exact L2 k hk o
theorem cp_kfin {a : Nat → Int32} {g S near : Int32} (U : cp_sub near (cp_F a g S)) (L : cp_Lo a g S 8 0 near) : (cp_sub S near → cp_sub S (cp_F a g S)) ∧ (cp_F a g S = S → cp_sub S near) := by
  refine ⟨fun h => cp_sub_tr h U, fun fS => ?_⟩
  have h : cp_sub (cp_F a g S) near := (L fS).1
  rw [fS] at h
  exact h
/-! the reference's safe: the union over the 256 sets -/
def cp_un (a : Nat → Int32) (g : Int32) (m : Nat) (all : Int32) : Prop := cp_sub g all ∧ cp_sub all (cp_K a g 8) ∧ ∀ i, i < m → cp_K a g 8 = nI i → cp_sub (cp_K a g 8) all
theorem cp_un0 (a : Nat → Int32) {g : Int32} (w : cp_w g) : cp_un a g 0 g := ⟨cp_sub_rfl g, cp_K_g a w, fun i hi => absurd hi (by omega)⟩
theorem cp_un_t {a : Nat → Int32} {g all : Int32} {m : Nat} (hm : m < 256) (U : cp_un a g m all) (h : cp_sub (nI m) (cp_F a g (nI m))) : cp_un a g (m + 1) (all ||| nI m) := by
  obtain ⟨u1, u2, u3⟩ := U
  refine ⟨fun s e => (cp_orT _ _ s).mpr (Or.inl (u1 s e)), fun s e => ?_, fun i hi e s e' => ?_⟩
  · rcases (cp_orT _ _ s).mp e with e | e
    · exact u2 s e
    · exact cp_K_in a g (cp_wn hm) h 8 s e
  · by_cases z : i = m
    · rw [e, z] at e'
      exact (cp_orT _ _ s).mpr (Or.inr e')
    · exact (cp_orT _ _ s).mpr (Or.inl (u3 i (by omega) e s e'))
theorem cp_un_f {a : Nat → Int32} {g all : Int32} {m : Nat} (w : cp_w g) (U : cp_un a g m all) (h : ¬ (cp_sub g (nI m) ∧ (cp_F a g (nI m) = nI m))) : cp_un a g (m + 1) all := by
  obtain ⟨u1, u2, u3⟩ := U
  refine ⟨u1, u2, fun i hi e => ?_⟩
  by_cases z : i = m
  · refine absurd ?_ h
    rw [← z, ← e]
    exact ⟨cp_K_g a w, cp_K_8 a w⟩
  · exact u3 i (by omega) e
theorem cp_unE {a : Nat → Int32} {g all : Int32} (w : cp_w g) (U : cp_un a g 256 all) : all = cp_K a g 8 := by
  obtain ⟨u1, u2, u3⟩ := U
  obtain ⟨n, hn, e⟩ := cp_nw (cp_K_w a w 8)
  exact cp_anti u2 (u3 n hn e)
/-! reached -/
theorem cp_rch {a : Nat → Int32} {g : Int32} {b : Bool} {d : Nat → Nat} {x : Int32} (w : cp_w g) (H : cp_far a g b d) (h : ∀ i, bt x i = true ↔ i < 8 ∧ d i < 99) : x = cp_L a g b 8 := by
  refine cp_anti (fun i e => ?_) (fun i e => ?_)
  · obtain ⟨h1, h2⟩ := (h i).mp e
    exact (cp_far98 w H h1).mp h2
  · have h1 := cp_lt8 (cp_L_w a w b 8) e
    exact (h i).mpr ⟨h1, (cp_far98 w H h1).mpr e⟩
/-! steps and luck: the first level that holds s -/
def cp_num (a : Nat → Int32) (g : Int32) (b : Bool) (s : Nat) (r : Int32) : Prop :=
  (∃ k, k < 8 ∧ r = nI k ∧ bt (cp_L a g b k) s = true ∧ ∀ j, j < k → ¬ bt (cp_L a g b j) s = true) ∨ (r = -2 ∧ ¬ bt (cp_L a g b 7) s = true)
theorem cp_num_d {a : Nat → Int32} {g : Int32} {b : Bool} {d : Nat → Nat} {s : Nat} {r : Int32} (w : cp_w g) (H : cp_far a g b d) (hs : s < 8) (N : cp_num a g b s r) : (d s < 99 → nI (d s) = r) ∧ (¬ d s < 99 → r = -2) := by
  rcases N with ⟨k, hk, e, h1, h2⟩ | ⟨e, h⟩
  · have z : d s = k := by
      have l := (H k (by omega) s hs).mpr h1
      rcases Nat.lt_or_ge (d s) k with y | y
      · exact absurd ((H (d s) (by omega) s hs).mp (Nat.le_refl _)) (h2 _ y)
      · omega
    exact ⟨fun _ => by rw [z, e], fun c => absurd (by omega : d s < 99) c⟩
  · have z : ¬ d s < 99 := by
      rw [cp_far98 w H hs, cp_L_7 a w b 8 (by omega)]
      exact h
    exact ⟨fun c => absurd c z, fun _ => e⟩
/-! sureAction: which actions fit -/
theorem cp_fit {a : Nat → Int32} {g : Int32} {d : Nat → Nat} {s k q n : Nat} (H : cp_far a g true d) (hs : s < 8) (hk : d s = k + 1) (hk9 : k < 98) (hq : q < 24) (hq3 : q / 3 = s) (hw : cp_w (a q))
    (hn : ∀ j, j < 99 → (n ≤ j ↔ cp_Q true (a q) (fun i => d i ≤ j))) : n + 1 = d s ↔ (¬ a q = 0 ∧ cp_sub (a q) (cp_L a g true k)) := by
  have key : n ≤ k ↔ (¬ a q = 0 ∧ cp_sub (a q) (cp_L a g true k)) := by
    rw [hn k (by omega), cp_ne0]
    constructor
    · rintro ⟨⟨i, b1, b2⟩, h⟩
      exact ⟨⟨i, b1⟩, fun t ht => (H k (by omega) t (cp_lt8 hw ht)).mp (h rfl t ht)⟩
    · rintro ⟨⟨i, b1⟩, h⟩
      have h' : ∀ t, bt (a q) t = true → d t ≤ k := fun t ht => (H k (by omega) t (cp_lt8 hw ht)).mpr (h t ht)
      exact ⟨⟨i, b1, h' i b1⟩, fun _ => h'⟩
  rw [← key, hk]
  constructor
  · intro h; omega
  · intro h
    rcases Nat.lt_or_ge n k with z | z
    · have q1 := (hn n (by omega)).mp (Nat.le_refl n)
      have q2 : cp_Q true (a q) (fun t => bt (cp_L a g true n) t = true) := cp_Q_mono (fun t ht hd => (H n (by omega) t (cp_lt8 hw ht)).mp hd) q1
      have e : bt (cp_L a g true (n + 1)) s = true := (cp_L_s a g true n s).mpr (Or.inr ⟨q, hq, hq3, (cp_QI hw).mp q2⟩)
      have := (H (n + 1) (by omega) s hs).mpr e
      omega
    · omega
end
section
/-! the actions of s that stay within S -/
def cp_af (a : Nat → Int32) (s : Nat) (S : Int32) : Nat → Int32
  | 0 => 0
  | n + 1 => if ¬ a (3 * s + n) = 0 ∧ (a (3 * s + n) &&& (S ^^^ (-1))) = 0 then cp_af a s S n ||| ((1 : Int32) <<< (nI n &&& 31)) else cp_af a s S n
theorem cp_af_s (a : Nat → Int32) (s : Nat) (S : Int32) (n : Nat) : cp_af a s S (n + 1) = if ¬ a (3 * s + n) = 0 ∧ (a (3 * s + n) &&& (S ^^^ (-1))) = 0 then cp_af a s S n ||| ((1 : Int32) <<< (nI n &&& 31)) else cp_af a s S n := rfl
theorem cp_af_t {a : Nat → Int32} {s : Nat} {S : Int32} {n : Nat} (h : ¬ a (3 * s + n) = 0) (h' : (a (3 * s + n) &&& (S ^^^ (-1))) = 0) : cp_af a s S n ||| ((1 : Int32) <<< (nI n &&& 31)) = cp_af a s S (n + 1) := by
  rw [cp_af_s, if_pos ⟨h, h'⟩]
theorem cp_af_f1 {a : Nat → Int32} {s : Nat} {S : Int32} {n : Nat} (h : a (3 * s + n) = 0) : cp_af a s S n = cp_af a s S (n + 1) := by
  rw [cp_af_s, if_neg (fun z => z.1 h)]
theorem cp_af_f2 {a : Nat → Int32} {s : Nat} {S : Int32} {n : Nat} (h : ¬ (a (3 * s + n) &&& (S ^^^ (-1))) = 0) : cp_af a s S n = cp_af a s S (n + 1) := by
  rw [cp_af_s, if_neg (fun z => h z.2)]
theorem cp_af_bt (a : Nat → Int32) (s : Nat) (S : Int32) (i : Nat) : ∀ n, n ≤ 3 → (bt (cp_af a s S n) i = true ↔ i < n ∧ ¬ a (3 * s + i) = 0 ∧ cp_sub (a (3 * s + i)) S) := by
  intro n
  induction n with
  | zero =>
    intro _
    exact ⟨fun h => (cp_tf h (b_0 i)).elim, fun h => absurd h.1 (by omega)⟩
  | succ n ih =>
    intro hn
    have q := ih (by omega)
    rw [cp_af_s]
    by_cases c : ¬ a (3 * s + n) = 0 ∧ (a (3 * s + n) &&& (S ^^^ (-1))) = 0
    · rw [if_pos c, cp_orT, cp_one (by omega), q]
      rw [cp_subI] at c
      constructor
      · rintro (⟨h1, h2⟩ | h)
        · exact ⟨by omega, h2⟩
        · rw [h]
          exact ⟨by omega, c⟩
      · rintro ⟨h1, h2⟩
        by_cases z : i = n
        · exact Or.inr z
        · exact Or.inl ⟨by omega, h2⟩
    · rw [if_neg c, q]
      rw [cp_subI] at c
      constructor
      · rintro ⟨h1, h2⟩
        exact ⟨by omega, h2⟩
      · rintro ⟨h1, h2⟩
        by_cases z : i = n
        · rw [z] at h2
          exact absurd h2 c
        · exact ⟨by omega, h2⟩
/-! the first action that fits -/
def cp_first (c : Nat → Prop) (r : Int32) : Prop := (∃ i, i < 3 ∧ r = nI i ∧ c i ∧ ∀ j, j < i → ¬ c j) ∨ (r = -2 ∧ ∀ j, j < 3 → ¬ c j)
theorem cp_first_u {c : Nat → Prop} {r r' : Int32} (h : cp_first c r) (h' : cp_first c r') : r' = r := by
  rcases h with ⟨i, hi, e, c1, c2⟩ | ⟨e, c2⟩
  · rcases h' with ⟨i', hi', e', c1', c2'⟩ | ⟨e', c2'⟩
    · have : i' = i := by
        rcases Nat.lt_trichotomy i i' with z | z | z
        · exact absurd c1 (c2' i z)
        · exact z.symm
        · exact absurd c1' (c2 i' z)
      rw [e, e', this]
    · exact absurd c1 (c2' i hi)
  · rcases h' with ⟨i', hi', e', c1', c2'⟩ | ⟨e', c2'⟩
    · exact absurd c1' (c2 i' hi')
    · rw [e, e']
/-! prune -/
def cp_pa (a : Nat → Int32) (S : Int32) : Nat → (Nat → Int32)
  | 0 => a
  | n + 1 => if (a n &&& (S ^^^ (-1))) = 0 then cp_pa a S n else upd (cp_pa a S n) n 0
def cp_pc (a : Nat → Int32) (S : Int32) : Nat → Nat
  | 0 => 0
  | n + 1 => if (a n &&& (S ^^^ (-1))) = 0 then cp_pc a S n else cp_pc a S n + 1
theorem cp_pa_s (a : Nat → Int32) (S : Int32) (n : Nat) : cp_pa a S (n + 1) = if (a n &&& (S ^^^ (-1))) = 0 then cp_pa a S n else upd (cp_pa a S n) n 0 := rfl
theorem cp_pc_s (a : Nat → Int32) (S : Int32) (n : Nat) : cp_pc a S (n + 1) = if (a n &&& (S ^^^ (-1))) = 0 then cp_pc a S n else cp_pc a S n + 1 := rfl
theorem cp_pa_ge (a : Nat → Int32) (S : Int32) : ∀ n i, n ≤ i → cp_pa a S n i = a i := by
  intro n
  induction n with
  | zero => intro i _; rfl
  | succ n ih =>
    intro i hi
    rw [cp_pa_s]
    by_cases c : (a n &&& (S ^^^ (-1))) = 0
    · rw [if_pos c]
      exact ih i (by omega)
    · rw [if_neg c, pk_un (by omega)]
      exact ih i (by omega)
theorem cp_updw {a : Nat → Int32} (w : ∀ i, cp_w (a i)) {x : Int32} (wx : cp_w x) (k : Nat) : ∀ i, cp_w (upd a k x i) := by
  intro i
  by_cases e : i = k
  · rw [e, pk_us]; exact wx
  · rw [pk_un e]; exact w i
theorem cp_pa_w {a : Nat → Int32} (w : ∀ i, cp_w (a i)) (S : Int32) : ∀ n i, cp_w (cp_pa a S n i) := by
  intro n
  induction n with
  | zero => exact w
  | succ n ih =>
    rw [cp_pa_s]
    by_cases c : (a n &&& (S ^^^ (-1))) = 0
    · rw [if_pos c]; exact ih
    · rw [if_neg c]; exact cp_updw ih cp_w0 n
theorem cp_pc_le (a : Nat → Int32) (S : Int32) : ∀ n, cp_pc a S n ≤ n := by
  intro n
  induction n with
  | zero => exact Nat.le_refl 0
  | succ n ih =>
    rw [cp_pc_s]
    by_cases c : (a n &&& (S ^^^ (-1))) = 0
    · rw [if_pos c]; omega
    · rw [if_neg c]; omega
/-! hopeful -/
def cp_hc (x y : Int32) : Nat → Nat
  | 0 => 0
  | n + 1 => if bt x n = true ∧ ¬ bt y n = true then cp_hc x y n + 1 else cp_hc x y n
theorem cp_hc_s (x y : Int32) (n : Nat) : cp_hc x y (n + 1) = if bt x n = true ∧ ¬ bt y n = true then cp_hc x y n + 1 else cp_hc x y n := rfl
theorem cp_hc_t {x y : Int32} {n : Nat} (h : bt x n = true) (h' : ¬ bt y n = true) : nI (cp_hc x y n) + 1 = nI (cp_hc x y (n + 1)) := by
  rw [cp_hc_s, if_pos ⟨h, h'⟩, nI_1]
theorem cp_hc_f {x y : Int32} {n : Nat} (h : ¬ (bt x n = true ∧ ¬ bt y n = true)) : nI (cp_hc x y n) = nI (cp_hc x y (n + 1)) := by
  rw [cp_hc_s, if_neg h]
theorem cp_andn (x y : Int32) {n : Nat} (h : n < 32) : bt (x &&& (y ^^^ (-1))) n = true ↔ bt x n = true ∧ ¬ bt y n = true := by
  rw [b_and, b_xor, b_m1 n h]
  cases bt x n <;> cases bt y n <;> decide
/-! s a state number -/
theorem cp_lt7 {x : Int32} (h0 : ¬ x < 0) (h : x ≤ 7) : ∃ s, s < 8 ∧ x = nI s := by
  obtain ⟨j, hj, e⟩ := nI_of2 (n := 7) (by decide) h0 h
  exact ⟨j, by omega, e⟩
theorem cp_lt255 {x : Int32} (h0 : ¬ x < 0) (h : x ≤ 255) : cp_w x := by
  obtain ⟨j, hj, e⟩ := nI_of2 (n := 255) (by decide) h0 h
  rw [e]
  exact cp_wn (by omega)
/-! small numbers -/
theorem cp_div3 {i : Nat} (h : i < 24) : nI i / 3 = nI (i / 3) := pk_div (d := 3) (by omega) (by decide) (by decide)
theorem cp_ixX (s n : Nat) : nI s * 3 + nI n = nI (3 * s + n) := by
  have h : nI s * 3 = nI (s * 3) := pk_mul s 3
  rw [h, nI_add, Nat.mul_comm]
theorem cp_ixY (s n : Nat) : 3 * nI s + nI n = nI (3 * s + n) := by
  have h : 3 * nI s = nI (3 * s) := pk_mul 3 s
  rw [h, nI_add]
theorem cp_3n : ¬ (3 : Int32) = 0 := by decide
theorem cp_n24 {i : Nat} (h : i < 24) : ¬ (24 : Int32) ≤ nI i := nI_ge (b := 24) h (by decide)
theorem cp_y24 : (24 : Int32) ≤ nI 24 := nI_le (a := 24) (b := 24) (by omega) (by decide)
theorem cp_n8 {i : Nat} (h : i < 8) : ¬ (8 : Int32) ≤ nI i := nI_ge (b := 8) h (by decide)
theorem cp_y8 : (8 : Int32) ≤ nI 8 := nI_le (a := 8) (b := 8) (by omega) (by decide)
theorem cp_n3 {i : Nat} (h : i < 3) : ¬ (3 : Int32) ≤ nI i := nI_ge (b := 3) h (by decide)
theorem cp_y3 : (3 : Int32) ≤ nI 3 := nI_le (a := 3) (b := 3) (by omega) (by decide)
theorem cp_n256 {i : Nat} (h : i < 256) : ¬ (256 : Int32) ≤ nI i := nI_ge (b := 256) h (by decide)
theorem cp_y256 : (256 : Int32) ≤ nI 256 := nI_le (a := 256) (b := 256) (by omega) (by decide)
end
section
/-! the class's walks, each with a general post -/
theorem cp_L_T (a : Nat → Int32) (g : Int32) (n : Nat) : cp_T a (cp_L a g true n) (cp_L a g true n) = cp_L a g true (n + 1) := by
  rw [cp_L_n, cp_f_T]
  rfl
theorem cp_L_F (a : Nat → Int32) (g : Int32) (n : Nat) : cp_T a 255 (cp_L a g false n) = cp_L a g false (n + 1) := by
  rw [cp_L_n, cp_f_T]
  rfl
theorem cp_78 {x : Int32} (h : 8 ≤ x) : 7 < x := by
  have h7 : (7 : Int32).toInt = 7 := by decide
  have h8 : (8 : Int32).toInt = 8 := by decide
  rw [Int32.le_iff_toInt_le, h8] at h
  rw [Int32.lt_iff_toInt_lt, h7]
  omega
theorem cp_case (x : Int32) : (x < 0 ∨ 8 ≤ x) ∨ ∃ s, s < 8 ∧ x = nI s := by
  by_cases h : x < 0
  · exact Or.inl (Or.inl h)
  · obtain ⟨j, hj, e⟩ := nI_of h
    rcases Nat.lt_or_ge j 8 with z | z
    · exact Or.inr ⟨j, z, e⟩
    · refine Or.inl (Or.inr ?_)
      rw [e]
      exact nI_le (a := 8) z hj
theorem cx_isT {post : Int32 → Prop} {s : Nat} (hs : s < 8) (k : post 1) : wpX_isState post (nI s) := br_f (nI_pos (by omega)) (br_f (cp_n8 hs) k)
theorem cx_isF {post : Int32 → Prop} {x : Int32} (h : x < 0 ∨ 8 ≤ x) (k : post 0) : wpX_isState post x := by
  by_cases h0 : x < 0
  · exact br_t h0 k
  · exact br_f h0 (br_t (h.resolve_left h0) k)
theorem cx_hT {post : Int32 → Prop} {x : Int32} {s : Nat} (hs : s < 32) (e : bt x s = true) (k : post 1) : wpX_holds post x (nI s) := br_f (fun z => (cp_bit0 x hs).mp z e) k
theorem cx_hF {post : Int32 → Prop} {x : Int32} {s : Nat} (hs : s < 32) (e : ¬ bt x s = true) (k : post 0) : wpX_holds post x (nI s) := br_t ((cp_bit0 x hs).mpr e) k
theorem cx_osb {post : Int32 → Prop} (g : Int32) (a : Nat → Int32) (al re : Int32) (k : post (cp_T a al re)) : wpX_oneStepBack post (g, a) al re := by
  refine loop_0 (fun n i s => wX_oneStepBack_5 post al re g a n s (nI i)) (fun i s => s = cp_st a al re i) 24 re rfl ?_ ?_
  · intro n s (hs : s = cp_st a al re 24)
    subst hs
    exact br_t cp_y24 k
  · intro n i s hi (hs : s = cp_st a al re i) ih
    refine br_f (cp_n24 hi) ⟨vp_in_nI hi (by decide), nm_r (e' := a i) (by rw [nI_clamp (by omega)]) ?_⟩
    by_cases c1 : (a i &&& (al ^^^ (-1))) = 0
    · refine br_t c1 ?_
      by_cases c2 : (a i &&& re) = 0
      · refine br_t c2 (nm_r (nI_1 i) (ih s ?_))
        show s = cp_st a al re (i + 1)
        rw [hs, cp_st_s, if_neg (fun z => z.2 c2)]
      · refine br_f c2 ⟨cp_3n, nm_r (e' := s ||| ((1 : Int32) <<< (nI (i / 3) &&& 31))) (by rw [cp_div3 hi]) (nm_r (nI_1 i) (ih _ ?_))⟩
        show s ||| ((1 : Int32) <<< (nI (i / 3) &&& 31)) = cp_st a al re (i + 1)
        rw [hs, cp_st_s, if_pos ⟨c1, c2⟩]
    · refine br_f c1 (nm_r (nI_1 i) (ih s ?_))
      show s = cp_st a al re (i + 1)
      rw [hs, cp_st_s, if_neg (fun z => c1 z.1)]
theorem cx_rw {post : Int32 → Prop} (g : Int32) (a : Nat → Int32) (S : Int32) (k : post (cp_F a g S)) : wpX_reachingWithin post (g, a) S := by
  refine loop_0 (fun n i s => wX_reachingWithin_7 post S g a n s (nI i)) (fun i s => s = cp_it (cp_T a S) g i) 8 g rfl ?_ ?_
  · intro n s (hs : s = cp_it (cp_T a S) g 8)
    subst hs
    exact br_t cp_y8 k
  · intro n i s hi (hs : s = cp_it (cp_T a S) g i) ih
    subst hs
    exact br_f (cp_n8 hi) (cx_osb g a S _ (nm_r (nI_1 i) (ih _ (cp_it_s (cp_T a S) g i).symm)))
theorem cx_safe {post : Int32 → Prop} (g : Int32) (a : Nat → Int32) (k : post (cp_K a g 8)) : wpX_safe post (g, a) := by
  refine loop_0 (fun n i s => wX_safe_6 post g a n s (nI i)) (fun i s => s = cp_K a g i) 8 255 (cp_K_0 a g).symm ?_ ?_
  · intro n s (hs : s = cp_K a g 8)
    subst hs
    exact br_t cp_y8 k
  · intro n i s hi (hs : s = cp_K a g i) ih
    subst hs
    exact br_f (cp_n8 hi) (cx_rw g a _ (nm_r (nI_1 i) (ih _ (cp_K_s a g i).symm)))
theorem cx_sa {post : Int32 → Prop} (g : Int32) (a : Nat → Int32) {m : Nat} (hm : m ≤ 8) (k : post (cp_L a g true m)) : wpX_sureAfter post (g, a) (nI m) := by
  refine loop_0 (fun n i s => wX_sureAfter_7 post (nI m) g a n s (nI i)) (fun i s => s = cp_L a g true i) m g rfl ?_ ?_
  · intro n s (hs : s = cp_L a g true m)
    subst hs
    exact br_t (nI_le (Nat.le_refl m) (by omega)) k
  · intro n i s hi (hs : s = cp_L a g true i) ih
    subst hs
    exact br_f (nI_ge hi (by omega)) (br_f (cp_n8 (by omega)) (cx_osb g a _ _ (nm_r (nI_1 i) (ih _ (cp_L_T a g i)))))
theorem cx_weak {post : Int32 → Prop} (g : Int32) (a : Nat → Int32) (k : post (cp_F a g 255)) : wpX_weak post (g, a) := by
  unfold wpX_weak
  exact cx_rw g a 255 k
theorem cp_weak (a : Nat → Int32) (g : Int32) : ∀ n, cp_it (cp_T a 255) g n = cp_L a g false n := by
  intro n
  induction n with
  | zero => rfl
  | succ n ih => rw [cp_it_s, ih, cp_L_F]
theorem cx_sure {post : Int32 → Prop} (g : Int32) (a : Nat → Int32) (k : post (cp_L a g true 8)) : wpX_sure post (g, a) := by
  unfold wpX_sure
  exact cx_sa g a (m := 8) (by omega) k
theorem cx_stepsF {post : Int32 → Prop} (g : Int32) (a : Nat → Int32) {x : Int32} (h : x < 0 ∨ 8 ≤ x) (k : post (-1)) : wpX_steps post (g, a) x := by
  unfold wpX_steps
  exact cx_isF h (br_t rfl k)
theorem cx_luckF {post : Int32 → Prop} (g : Int32) (a : Nat → Int32) {x : Int32} (h : x < 0 ∨ 8 ≤ x) (k : post (-1)) : wpX_luck post (g, a) x := by
  unfold wpX_luck
  exact cx_isF h (br_t rfl k)
theorem cx_steps {post : Int32 → Prop} (g : Int32) (a : Nat → Int32) {s : Nat} (hs : s < 8) (k : ∀ r, cp_num a g true s r → post r) : wpX_steps post (g, a) (nI s) := by
  unfold wpX_steps
  refine cx_isT hs (br_f (by decide) ?_)
  refine loop_0 (fun n i x => wX_steps_16 post (nI s) g a n x (nI i)) (fun i x => x = cp_L a g true i ∧ ∀ j, j < i → ¬ bt (cp_L a g true j) s = true) 8 g ⟨rfl, fun j hj => absurd hj (by omega)⟩ ?_ ?_
  · intro n x (hx : x = cp_L a g true 8 ∧ ∀ j, j < 8 → ¬ bt (cp_L a g true j) s = true)
    exact br_t cp_y8 (k _ (Or.inr ⟨rfl, hx.2 7 (by omega)⟩))
  · intro n i x hi (hx : x = cp_L a g true i ∧ ∀ j, j < i → ¬ bt (cp_L a g true j) s = true) ih
    obtain ⟨hx, h⟩ := hx
    subst hx
    refine br_f (cp_n8 hi) ?_
    by_cases e : bt (cp_L a g true i) s = true
    · exact cx_hT (by omega) e (br_f (by decide) (k _ (Or.inl ⟨i, hi, rfl, e, h⟩)))
    · refine cx_hF (by omega) e (br_t rfl (cx_osb g a _ _ (nm_r (nI_1 i) (ih _ ⟨cp_L_T a g i, fun j hj => ?_⟩))))
      by_cases z : j = i
      · rw [z]; exact e
      · exact h j (by omega)
theorem cx_luck {post : Int32 → Prop} (g : Int32) (a : Nat → Int32) {s : Nat} (hs : s < 8) (k : ∀ r, cp_num a g false s r → post r) : wpX_luck post (g, a) (nI s) := by
  unfold wpX_luck
  refine cx_isT hs (br_f (by decide) ?_)
  refine loop_0 (fun n i x => wX_luck_16 post (nI s) g a n x (nI i)) (fun i x => x = cp_L a g false i ∧ ∀ j, j < i → ¬ bt (cp_L a g false j) s = true) 8 g ⟨rfl, fun j hj => absurd hj (by omega)⟩ ?_ ?_
  · intro n x (hx : x = cp_L a g false 8 ∧ ∀ j, j < 8 → ¬ bt (cp_L a g false j) s = true)
    exact br_t cp_y8 (k _ (Or.inr ⟨rfl, hx.2 7 (by omega)⟩))
  · intro n i x hi (hx : x = cp_L a g false i ∧ ∀ j, j < i → ¬ bt (cp_L a g false j) s = true) ih
    obtain ⟨hx, h⟩ := hx
    subst hx
    refine br_f (cp_n8 hi) ?_
    by_cases e : bt (cp_L a g false i) s = true
    · exact cx_hT (by omega) e (br_f (by decide) (k _ (Or.inl ⟨i, hi, rfl, e, h⟩)))
    · refine cx_hF (by omega) e (br_t rfl (cx_osb g a _ _ (nm_r (nI_1 i) (ih _ ⟨cp_L_F a g i, fun j hj => ?_⟩))))
      by_cases z : j = i
      · rw [z]; exact e
      · exact h j (by omega)
theorem cx_ai {post : Int32 → Prop} (g : Int32) (a : Nat → Int32) {s : Nat} (hs : s < 8) (S : Int32) (k : post (cp_af a s S 3)) : wpX_actionsInto post (g, a) (nI s) S := by
  refine loop_0 (fun n i x => wX_actionsInto_5 post (nI s) S g a n x (nI i)) (fun i x => x = cp_af a s S i) 3 0 rfl ?_ ?_
  · intro n x (hx : x = cp_af a s S 3)
    subst hx
    exact br_t cp_y3 k
  · intro n i x hi (hx : x = cp_af a s S i) ih
    subst hx
    refine br_f (cp_n3 hi) ⟨pk_in (3 * s + i) 24 (by omega) (cp_ixX s i), nm_r (e' := a (3 * s + i)) (by rw [pk_cl (3 * s + i) (cp_ixX s i)]) ?_⟩
    by_cases c0 : a (3 * s + i) = 0
    · exact br_t c0 (nm_r (nI_1 i) (ih _ (cp_af_f1 c0)))
    · refine br_f c0 ?_
      by_cases c : (a (3 * s + i) &&& (S ^^^ (-1))) = 0
      · exact br_t c (nm_e (nm_r (nI_1 i) (ih _ (cp_af_t c0 c))))
      · exact br_f c (nm_r (nI_1 i) (ih _ (cp_af_f2 c)))
theorem cx_sl {post : Int32 → Prop} (g : Int32) (a : Nat → Int32) (x : Int32) (k : ∀ r, cp_first (fun i => bt x i = true) r → post r) : ∃ n, wX_sureAction_33 post x g a n 0 := by
  refine loop_0 (fun n i (_ : Unit) => wX_sureAction_33 post x g a n (nI i)) (fun i _ => ∀ j, j < i → ¬ bt x j = true) 3 () (fun j hj => absurd hj (by omega)) ?_ ?_
  · intro n _ (h : ∀ j, j < 3 → ¬ bt x j = true)
    exact br_t cp_y3 (k _ (Or.inr ⟨rfl, h⟩))
  · intro n i _ hi (h : ∀ j, j < i → ¬ bt x j = true) ih
    refine br_f (cp_n3 hi) ?_
    by_cases e : bt x i = true
    · exact cx_hT (by omega) e (br_f (by decide) (k _ (Or.inl ⟨i, hi, rfl, e, h⟩)))
    · refine cx_hF (by omega) e (br_t rfl (nm_r (nI_1 i) (ih () fun j hj => ?_)))
      by_cases z : j = i
      · rw [z]; exact e
      · exact h j (by omega)
theorem cp_nm2 {m : Nat} (h : m < 2 ^ 31) : ¬ nI m = -2 := by
  intro e
  have t := nI_toInt h
  have h2 : (-2 : Int32).toInt = -2 := by decide
  rw [e, h2] at t
  omega
theorem cx_sureAction {post : Int32 → Prop} (g : Int32) (a : Nat → Int32) {s : Nat} (hs : s < 8) (k0 : (bt g s = true ∨ ¬ bt (cp_L a g true 7) s = true) → post (-2))
    (k1 : ∀ m, m < 7 → bt (cp_L a g true (m + 1)) s = true → (∀ j, j < m + 1 → ¬ bt (cp_L a g true j) s = true) → ∀ r, cp_first (fun i => bt (cp_af a s (cp_L a g true m) 3) i = true) r → post r) : wpX_sureAction post (g, a) (nI s) := by
  unfold wpX_sureAction
  refine cx_steps g a hs ?_
  rintro r (⟨q, hq, e, h1, h2⟩ | ⟨e, h⟩)
  · cases q with
    | zero =>
      subst e
      refine br_f (nI_ge (b := 1) (by omega) (by decide)) (k0 (Or.inl h1))
    | succ m =>
      subst e
      refine br_t (nI_le (a := 1) (by omega) (by omega)) ?_
      rw [nI_pred]
      exact cx_sa g a (by omega) (cx_ai g a hs _ (cx_sl g a _ (k1 m (by omega) h1 h2)))
  · subst e
    exact br_f (by decide) (k0 (Or.inr h))
theorem cx_pl {post : Int32 → SX → Prop} (g : Int32) (a : Nat → Int32) (S : Int32) (k : post (nI (cp_pc a S 24)) (g, cp_pa a S 24)) : ∃ n, wX_prune_9 post S g n 0 0 a := by
  refine loop_0 (fun n i s => wX_prune_9 post S g n s.1 (nI i) s.2) (fun i s => s = (nI (cp_pc a S i), cp_pa a S i)) 24 (0, a) rfl ?_ ?_
  · intro n s (hs : s = (nI (cp_pc a S 24), cp_pa a S 24))
    subst hs
    exact br_t cp_y24 k
  · intro n i s hi (hs : s = (nI (cp_pc a S i), cp_pa a S i)) ih
    subst hs
    have ha : cp_pa a S i (nI i).toNatClampNeg = a i := by
      rw [nI_clamp (by omega)]
      exact cp_pa_ge a S i i (Nat.le_refl i)
    refine br_f (cp_n24 hi) ⟨vp_in_nI hi (by decide), ?_⟩
    by_cases c : (a i &&& (S ^^^ (-1))) = 0
    · refine br_t (by dsimp only; rw [ha]; exact c) (nm_r (nI_1 i) (ih (nI (cp_pc a S i), cp_pa a S i) ?_))
      show (nI (cp_pc a S i), cp_pa a S i) = (nI (cp_pc a S (i + 1)), cp_pa a S (i + 1))
      rw [cp_pc_s, cp_pa_s, if_pos c, if_pos c]
    · refine br_f (by dsimp only; rw [ha]; exact c) ⟨vp_in_nI hi (by decide), nm_r (e' := upd (cp_pa a S i) i 0) (by rw [nI_clamp (by omega)]) (nm_r (nI_1 _) (nm_r (nI_1 i) (ih (nI (cp_pc a S i + 1), upd (cp_pa a S i) i 0) ?_)))⟩
      show (nI (cp_pc a S i + 1), upd (cp_pa a S i) i 0) = (nI (cp_pc a S (i + 1)), cp_pa a S (i + 1))
      rw [cp_pc_s, cp_pa_s, if_neg c, if_neg c]
theorem cx_hl {post : Int32 → Prop} (g : Int32) (a : Nat → Int32) (x y : Int32) (k : post (nI (cp_hc x y 8))) : ∃ n, wX_hopeful_22 post (x &&& (y ^^^ (-1))) g a n 0 0 := by
  refine loop_0 (fun n i s => wX_hopeful_22 post (x &&& (y ^^^ (-1))) g a n s (nI i)) (fun i s => s = nI (cp_hc x y i)) 8 0 rfl ?_ ?_
  · intro n s (hs : s = nI (cp_hc x y 8))
    subst hs
    exact br_t cp_y8 k
  · intro n i s hi (hs : s = nI (cp_hc x y i)) ih
    subst hs
    refine br_f (cp_n8 hi) ?_
    by_cases e : bt x i = true ∧ ¬ bt y i = true
    · exact cx_hT (by omega) ((cp_andn x y (by omega)).mpr e) (br_f (by decide) (nm_r (cp_hc_t e.1 e.2) (nm_r (nI_1 i) (ih _ rfl))))
    · exact cx_hF (by omega) (fun z => e ((cp_andn x y (by omega)).mp z)) (br_t rfl (nm_r (nI_1 i) (ih _ (cp_hc_f e))))
end
section
/-! the reference's walks, each with a general post -/
def cp_D (f : Nat → Int32) (d : Nat → Nat) : Prop := ∀ s, s < 8 → f s = nI (d s) ∧ d s ≤ 99
def cp_xb (b : Bool) : Int32 := cond b 1 0
theorem cp_D_up {f : Nat → Int32} {d : Nat → Nat} (D : cp_D f d) (s : Nat) {v : Nat} (hv : v ≤ 99) : cp_D (upd f s (nI v)) (cp_up d s v) := by
  intro t ht
  by_cases e : t = s
  · rw [e, pk_us, cp_up_s]
    exact ⟨rfl, hv⟩
  · rw [pk_un e, cp_up_n d v e]
    exact D t ht
theorem cy_isT {post : Int32 → Prop} {g : Int32} {a f : Nat → Int32} {s : Nat} (hs : s < 8) (k : post 1) : wpY_isState post (g, a, f) (nI s) :=
  br_f (nI_pos (by omega)) (br_f (nI_nlt (a := 7) (by omega) (by decide)) k)
theorem cy_isF {post : Int32 → Prop} {g : Int32} {a f : Nat → Int32} {x : Int32} (h : x < 0 ∨ 8 ≤ x) (k : post 0) : wpY_isState post (g, a, f) x := by
  by_cases h0 : x < 0
  · exact br_t h0 k
  · exact br_f h0 (br_t (cp_78 (h.resolve_left h0)) k)
theorem cy_inT {post : Int32 → Prop} {g : Int32} {a f : Nat → Int32} {x : Int32} {s : Nat} (hs : s < 32) (e : bt x s = true) (k : post 1) : wpY_in post (g, a, f) x (nI s) := br_t ((cp_bit1 x hs).mpr e) k
theorem cy_inF {post : Int32 → Prop} {g : Int32} {a f : Nat → Int32} {x : Int32} {s : Nat} (hs : s < 32) (e : ¬ bt x s = true) (k : post 0) : wpY_in post (g, a, f) x (nI s) := br_f (fun z => e ((cp_bit1 x hs).mp z)) k
theorem cy_out {post : Int32 → Prop} (g : Int32) (a f : Nat → Int32) {d : Nat → Nat} (D : cp_D f d) {o : Int32} (w : cp_w o) (b : Bool) (k : ∀ r, cp_out b o d r → post r) : wpY_outcome post (g, a, f) o (cp_xb b) := by
  refine loop_0 (fun n i s => wY_outcome_9 post o (cp_xb b) g a f n s.1 s.2 (nI i)) (fun i s => cp_mo o d i s.1 ∧ cp_le o d i s.2) 8 (-1, 99) ⟨Or.inl ⟨rfl, fun s hs => absurd hs (by omega)⟩, ⟨99, Nat.le_refl 99, rfl, fun s hs => absurd hs (by omega), Or.inl rfl⟩⟩ ?_ ?_
  · intro n s h
    obtain ⟨mo, le⟩ := s
    obtain ⟨hm, hl⟩ := h
    refine br_t cp_y8 ?_
    cases b with
    | false => exact br_t rfl (k _ (cp_out_le w hl))
    | true =>
      refine br_f (by decide) ?_
      by_cases c : mo < 0
      · exact br_t c (k _ (cp_out_em w c hm hl))
      · exact br_f c (k _ (cp_out_mo w c hm))
  · intro n i s hi h ih
    obtain ⟨mo, le⟩ := s
    obtain ⟨hm, hl⟩ := h
    obtain ⟨e, h99⟩ := D i hi
    have ef : f (nI i).toNatClampNeg = nI (d i) := by
      rw [nI_clamp (by omega)]
      exact e
    refine br_f (cp_n8 hi) ?_
    by_cases c : bt o i = true
    · refine cy_inT (by omega) c (br_f (by decide) ⟨vp_in_nI hi (by decide), ?_⟩)
      have J : ∀ mo', cp_mo o d (i + 1) mo' → wY_outcome_45 post (wY_outcome_9 post o (cp_xb b) g a f n) o (cp_xb b) mo' le (nI i) g a f := by
        intro mo' hm'
        refine ⟨vp_in_nI hi (by decide), ?_⟩
        by_cases c2 : le ≤ nI (d i)
        · exact br_t (by rw [ef]; exact c2) (nm_r (nI_1 i) (ih (mo', le) ⟨hm', cp_le_st h99 c2 hl⟩))
        · exact br_f (by rw [ef]; exact c2) ⟨vp_in_nI hi (by decide), nm_r ef (nm_r (nI_1 i) (ih (mo', nI (d i)) ⟨hm', cp_le_dn c h99 c2 hl⟩))⟩
      by_cases c1 : nI (d i) ≤ mo
      · exact br_t (by rw [ef]; exact c1) (J mo (cp_mo_st h99 c1 hm))
      · exact br_f (by rw [ef]; exact c1) ⟨vp_in_nI hi (by decide), nm_r ef (J _ (cp_mo_up c h99 c1 hm))⟩
    · exact cy_inF (by omega) c (br_t rfl (nm_r (nI_1 i) (ih (mo, le) ⟨cp_mo_n c hm, cp_le_n c hl⟩)))
theorem cy_c48 {post : SY → Prop} {J : Int32 → (Nat → Int32) → (Nat → Int32) → Prop} (g : Int32) (a : Nat → Int32) (wa : ∀ i, cp_w (a i)) (b : Bool) {r : Nat} (hr : r < 8)
    (kJ : ∀ f d, cp_D f d → cp_Snd a g b d → cp_Cmp a g b (r + 1) 0 d → J (nI (r + 1)) a f) (f : Nat → Int32) (d : Nat → Nat) (D : cp_D f d) (S : cp_Snd a g b d) (C : cp_Cmp a g b r 0 d) :
    ∃ n, wY_count_48 post J (cp_xb b) (nI r) g n 0 a f := by
  refine loop_0 (fun n i s => wY_count_48 post J (cp_xb b) (nI r) g n (nI i) a s) (fun i s => ∃ d, cp_D s d ∧ cp_Snd a g b d ∧ cp_Cmp a g b r i d) 24 f ⟨d, D, S, C⟩ ?_ ?_
  · rintro n s ⟨d, D, S, C⟩
    exact br_t cp_y24 (nm_r (nI_1 r) (kJ s d D S (cp_crd C)))
  · rintro n i s hi ⟨d, D, S, C⟩ ih
    have ei : a (nI i).toNatClampNeg = a i := by rw [nI_clamp (by omega)]
    have h3 : i / 3 < 8 := by omega
    have e3 : (nI i / 3).toNatClampNeg = i / 3 := by rw [cp_div3 hi, nI_clamp (by omega)]
    have es : s (nI i / 3).toNatClampNeg = nI (d (i / 3)) := by
      rw [e3]
      exact (D _ h3).1
    have v3 : vp_in (nI i / 3) 8 := by
      rw [cp_div3 hi]
      exact vp_in_nI h3 (by decide)
    have d99 := (D _ h3).2
    refine br_f (cp_n24 hi) ⟨vp_in_nI hi (by decide), ?_⟩
    rw [ei]
    refine cy_out g a s D (wa i) b ?_
    rintro x ⟨m, hm, ex, hQ⟩
    subst ex
    refine ⟨cp_3n, v3, ?_⟩
    by_cases c : m + 1 < d (i / 3)
    · have c' : ¬ s (nI i / 3).toNatClampNeg ≤ nI m + 1 := by
        rw [es, nI_1]
        exact nI_ge c (by omega)
      obtain ⟨S', C'⟩ := cp_cup (wa i) hi hr hQ S C c
      exact br_f c' ⟨cp_3n, v3, nm_r (e' := upd s (i / 3) (nI (m + 1))) (by rw [e3, nI_1]) (nm_r (nI_1 i) (ih _ ⟨_, cp_D_up D (i / 3) (by omega), S', C'⟩))⟩
    · have c' : s (nI i / 3).toNatClampNeg ≤ nI m + 1 := by
        rw [es, nI_1]
        exact nI_le (by omega) (by omega)
      exact br_t c' (nm_r (nI_1 i) (ih s ⟨d, D, S, cp_cst (wa i) hr hQ C c⟩))
theorem cy_c40 {post : SY → Prop} (g : Int32) (a : Nat → Int32) (wg : cp_w g) (wa : ∀ i, cp_w (a i)) (b : Bool) (k : ∀ f d, cp_D f d → cp_far a g b d → post (g, a, f))
    (f : Nat → Int32) (d : Nat → Nat) (D : cp_D f d) (S : cp_Snd a g b d) (C : cp_Cmp a g b 0 0 d) : ∃ n, wY_count_40 post (cp_xb b) g n 0 a f := by
  refine loop_0 (fun n i s => wY_count_40 post (cp_xb b) g n (nI i) a s) (fun i s => ∃ d, cp_D s d ∧ cp_Snd a g b d ∧ cp_Cmp a g b i 0 d) 8 f ⟨d, D, S, C⟩ ?_ ?_
  · rintro n s ⟨d, D, S, C⟩
    exact br_t cp_y8 (k s d D (cp_fin wg S C))
  · rintro n i s hi ⟨d, D, S, C⟩ ih
    exact br_f (cp_n8 hi) (cy_c48 g a wa b hi (fun f d D S C => ih f ⟨d, D, S, C⟩) s d D S C)
theorem cy_cnt {post : SY → Prop} (g : Int32) (a f : Nat → Int32) (wg : cp_w g) (wa : ∀ i, cp_w (a i)) (b : Bool) (k : ∀ f d, cp_D f d → cp_far a g b d → post (g, a, f)) : wpY_count post (g, a, f) (cp_xb b) := by
  refine loop_0 (fun n i s => wY_count_2 post (cp_xb b) g n (nI i) a s) (fun i s => ∀ t, t < i → s t = nI (if bt g t = true then 0 else 99)) 8 f (fun t ht => absurd ht (by omega)) ?_ ?_
  · intro n s (hs : ∀ t, t < 8 → s t = nI (if bt g t = true then 0 else 99))
    have D : cp_D s (fun t => if bt g t = true then 0 else 99) := fun t ht => ⟨hs t ht, by
      show (if bt g t = true then 0 else 99) ≤ 99
      by_cases e : bt g t = true
      · rw [if_pos e]; omega
      · rw [if_neg e]; omega⟩
    obtain ⟨S, C⟩ := cp_c0 a g b (d := fun t => if bt g t = true then 0 else 99) (fun t ht => rfl)
    exact br_t cp_y8 (cy_c40 g a wg wa b k s _ D S C)
  · intro n i s hi (hs : ∀ t, t < i → s t = nI (if bt g t = true then 0 else 99)) ih
    refine br_f (cp_n8 hi) ?_
    by_cases e : bt g i = true
    · refine cy_inT (by omega) e (br_f (by decide) ⟨vp_in_nI hi (by decide), nm_r (e' := upd s i 0) (by rw [nI_clamp (by omega)]) (nm_r (nI_1 i) (ih _ ?_))⟩)
      intro t ht
      by_cases z : t = i
      · rw [z, pk_us, if_pos e]; rfl
      · rw [pk_un z]
        exact hs t (by omega)
    · refine cy_inF (by omega) e (br_t rfl ⟨vp_in_nI hi (by decide), nm_r (e' := upd s i 99) (by rw [nI_clamp (by omega)]) (nm_r (nI_1 i) (ih _ ?_))⟩)
      intro t ht
      by_cases z : t = i
      · rw [z, pk_us, if_neg e]; rfl
      · rw [pk_un z]
        exact hs t (by omega)
theorem cy_rch {post : Int32 → Prop} (g : Int32) (a f : Nat → Int32) {d : Nat → Nat} (D : cp_D f d) (k : ∀ x, (∀ i, bt x i = true ↔ i < 8 ∧ d i < 99) → post x) : wpY_reached post (g, a, f) := by
  refine loop_0 (fun n i s => wY_reached_4 post g a f n s (nI i)) (fun i s => ∀ t, bt s t = true ↔ t < i ∧ d t < 99) 8 0 (fun t => ⟨fun h => (cp_tf h (b_0 t)).elim, fun h => absurd h.1 (by omega)⟩) ?_ ?_
  · intro n s (hs : ∀ t, bt s t = true ↔ t < 8 ∧ d t < 99)
    exact br_t cp_y8 (k s hs)
  · intro n i s hi (hs : ∀ t, bt s t = true ↔ t < i ∧ d t < 99) ih
    obtain ⟨e, h99⟩ := D i hi
    have ef : f (nI i).toNatClampNeg = nI (d i) := by
      rw [nI_clamp (by omega)]
      exact e
    refine br_f (cp_n8 hi) ⟨vp_in_nI hi (by decide), ?_⟩
    by_cases c : d i < 99
    · refine br_f (by rw [ef]; exact nI_ge (b := 99) c (by decide)) (nm_e (nm_r (nI_1 i) (ih _ ?_)))
      intro t
      rw [cp_orT, cp_one (by omega), hs]
      constructor
      · rintro (⟨h1, h2⟩ | h)
        · exact ⟨by omega, h2⟩
        · rw [h]
          exact ⟨by omega, c⟩
      · rintro ⟨h1, h2⟩
        by_cases z : t = i
        · exact Or.inr z
        · exact Or.inl ⟨by omega, h2⟩
    · refine br_t (by rw [ef]; exact nI_le (a := 99) (by omega) (by omega)) (nm_r (nI_1 i) (ih s ?_))
      intro t
      rw [hs]
      constructor
      · rintro ⟨h1, h2⟩
        exact ⟨by omega, h2⟩
      · rintro ⟨h1, h2⟩
        by_cases z : t = i
        · rw [z] at h2
          exact absurd h2 c
        · exact ⟨by omega, h2⟩
theorem cy_weak {post : Int32 → SY → Prop} (g : Int32) (a f : Nat → Int32) (wg : cp_w g) (wa : ∀ i, cp_w (a i)) (k : ∀ f', post (cp_L a g false 8) (g, a, f')) : wpY_weak post (g, a, f) := by
  unfold wpY_weak
  refine cy_cnt g a f wg wa false fun f' d D H => ?_
  refine cy_rch g a f' D fun x hx => ?_
  rw [cp_rch wg H hx]
  exact k f'
theorem cy_sure {post : Int32 → SY → Prop} (g : Int32) (a f : Nat → Int32) (wg : cp_w g) (wa : ∀ i, cp_w (a i)) (k : ∀ f', post (cp_L a g true 8) (g, a, f')) : wpY_sure post (g, a, f) := by
  unfold wpY_sure
  refine cy_cnt g a f wg wa true fun f' d D H => ?_
  refine cy_rch g a f' D fun x hx => ?_
  rw [cp_rch wg H hx]
  exact k f'
theorem cy_k16 {post : Int32 → Prop} {J : Int32 → Int32 → Prop} (g : Int32) (a f : Nat → Int32) (wg : cp_w g) (S : Int32) {r : Nat} (hr : r < 8)
    (kJ : ∀ x, cp_sub x (cp_F a g S) → cp_Lo a g S (r + 1) 0 x → J x (nI (r + 1))) (x : Int32) (U : cp_sub x (cp_F a g S)) (L : cp_Lo a g S r 0 x) : ∃ n, wY_keeps_16 post J S (nI r) g a f n x 0 := by
  refine loop_0 (fun n i s => wY_keeps_16 post J S (nI r) g a f n s (nI i)) (fun i s => cp_sub s (cp_F a g S) ∧ cp_Lo a g S r i s) 24 x ⟨U, L⟩ ?_ ?_
  · rintro n s ⟨U, L⟩
    exact br_t cp_y24 (nm_r (nI_1 r) (kJ s U (cp_krd L)))
  · rintro n i s hi ⟨U, L⟩ ih
    have ei : a (nI i).toNatClampNeg = a i := by rw [nI_clamp (by omega)]
    have stay : ¬ (bt S (i / 3) = true ∧ cp_ok S s (a i)) → cp_sub s (cp_F a g S) ∧ cp_Lo a g S r (i + 1) s := fun hn =>
      cp_kstep wg hi hr U L (fun t => ⟨fun h => Or.inl h, fun h => h.elim id (fun z => absurd z.2 hn)⟩)
    refine br_f (cp_n24 hi) ⟨cp_3n, ?_⟩
    rw [cp_div3 hi]
    by_cases c0 : bt S (i / 3) = true
    · refine cy_inT (by omega) c0 (br_f (by decide) ⟨vp_in_nI hi (by decide), ?_⟩)
      by_cases c1 : (a i &&& (S ^^^ (-1))) = 0
      · refine br_t (by rw [ei]; exact c1) ⟨vp_in_nI hi (by decide), ?_⟩
        by_cases c2 : (a i &&& s) = 0
        · exact br_t (by rw [ei]; exact c2) (nm_r (nI_1 i) (ih s (stay fun z => (cp_mtI _ _).mpr z.2.2 c2)))
        · refine br_f (by rw [ei]; exact c2) ⟨cp_3n, nm_e (nm_r (nI_1 i) (ih _ ?_))⟩
          have o : cp_ok S s (a i) := ⟨(cp_subI _ _).mp c1, (cp_mtI _ _).mp c2⟩
          refine cp_kstep wg hi hr U L (fun t => ?_)
          rw [cp_orT, cp_one (by omega)]
          constructor
          · rintro (h | h)
            · exact Or.inl h
            · exact Or.inr ⟨h, c0, o⟩
          · rintro (h | ⟨h, _⟩)
            · exact Or.inl h
            · exact Or.inr h
      · exact br_f (by rw [ei]; exact c1) (nm_r (nI_1 i) (ih s (stay fun z => c1 ((cp_subI _ _).mpr z.2.1))))
    · exact cy_inF (by omega) c0 (br_t rfl (nm_r (nI_1 i) (ih s (stay fun z => c0 z.1))))
theorem cy_keeps {post : Int32 → Prop} (g : Int32) (a f : Nat → Int32) (wg : cp_w g) (S : Int32) (k1 : cp_sub S (cp_F a g S) → post 1) (k0 : ¬ cp_F a g S = S → post 0) : wpY_keeps post (g, a, f) S := by
  refine loop_0 (fun n i s => wY_keeps_7 post S g a f n s (nI i)) (fun i s => cp_sub s (cp_F a g S) ∧ cp_Lo a g S i 0 s) 8 g (cp_k0 a g S) ?_ ?_
  · rintro n s ⟨U, L⟩
    obtain ⟨h1, h2⟩ := cp_kfin U L
    refine br_t cp_y8 ?_
    by_cases c : (S &&& (s ^^^ (-1))) = 0
    · exact br_t c (k1 (h1 ((cp_subI _ _).mp c)))
    · exact br_f c (k0 fun e => c ((cp_subI _ _).mpr (h2 e)))
  · rintro n i s hi ⟨U, L⟩ ih
    exact br_f (cp_n8 hi) (cy_k16 g a f wg S hi (fun x U L => ih x ⟨U, L⟩) s U L)
theorem cy_safe {post : Int32 → Prop} (g : Int32) (a f : Nat → Int32) (wg : cp_w g) (k : post (cp_K a g 8)) : wpY_safe post (g, a, f) := by
  refine loop_0 (fun n i s => wY_safe_7 post g a f n s (nI i)) (fun i s => cp_un a g i s) 256 g (cp_un0 a wg) ?_ ?_
  · intro n s (U : cp_un a g 256 s)
    have e := cp_unE wg U
    subst e
    exact br_t cp_y256 k
  · intro n i s hi (U : cp_un a g i s) ih
    refine br_f (cp_n256 hi) ?_
    by_cases c : (g &&& (nI i ^^^ (-1))) = 0
    · exact br_t c (cy_keeps g a f wg (nI i) (fun h => br_f (by decide) (nm_e (nm_r (nI_1 i) (ih _ (cp_un_t hi U h))))) (fun h => br_t rfl (nm_r (nI_1 i) (ih s (cp_un_f wg U (fun z => h z.2))))))
    · exact br_f c (nm_r (nI_1 i) (ih s (cp_un_f wg U (fun z => c ((cp_subI _ _).mpr z.1)))))
theorem cy_num {post : Int32 → SY → Prop} (g : Int32) (a f : Nat → Int32) (wg : cp_w g) (wa : ∀ i, cp_w (a i)) (b : Bool) {s : Nat} (hs : s < 8) {r : Int32} (N : cp_num a g b s r)
    (k : ∀ f' d, cp_D f' d → cp_far a g b d → post r (g, a, f')) : wpY_number post (g, a, f) (nI s) (cp_xb b) := by
  unfold wpY_number
  refine cy_isT hs (br_f (by decide) (cy_cnt g a f wg wa b fun f' d D H => ?_))
  have ef : f' (nI s).toNatClampNeg = nI (d s) := by
    rw [nI_clamp (by omega)]
    exact (D s hs).1
  have d99 := (D s hs).2
  have p := k f' d D H
  obtain ⟨n1, n2⟩ := cp_num_d wg H hs N
  refine ⟨vp_in_nI hs (by decide), ?_⟩
  by_cases c : d s < 99
  · refine br_f (by rw [ef]; exact nI_ge (b := 99) c (by decide)) ⟨vp_in_nI hs (by decide), ?_⟩
    rw [ef, n1 c]
    exact p
  · refine br_t (by rw [ef]; exact nI_le (a := 99) (by omega) (by omega)) ?_
    rw [n2 c] at p
    exact p
theorem cy_numF {post : Int32 → SY → Prop} (g : Int32) (a f : Nat → Int32) {x y : Int32} (h : x < 0 ∨ 8 ≤ x) (k : post (-1) (g, a, f)) : wpY_number post (g, a, f) x y := by
  unfold wpY_number
  exact cy_isF h (br_t rfl k)
theorem cy_al {post : Int32 → Prop} (g : Int32) (a f : Nat → Int32) {s : Nat} (hs : s < 8) (S : Int32) (k : post (cp_af a s S 3)) : ∃ n, wY_safeActions_41 post (nI s) S g a f n 0 0 := by
  refine loop_0 (fun n i x => wY_safeActions_41 post (nI s) S g a f n x (nI i)) (fun i x => x = cp_af a s S i) 3 0 rfl ?_ ?_
  · intro n x (hx : x = cp_af a s S 3)
    subst hx
    exact br_t cp_y3 k
  · intro n i x hi (hx : x = cp_af a s S i) ih
    subst hx
    have v : vp_in (3 * nI s + nI i) 24 := pk_in (3 * s + i) 24 (by omega) (cp_ixY s i)
    have ei : a (3 * nI s + nI i).toNatClampNeg = a (3 * s + i) := by rw [pk_cl (3 * s + i) (cp_ixY s i)]
    refine br_f (cp_n3 hi) ⟨v, ?_⟩
    by_cases c0 : a (3 * s + i) = 0
    · exact br_t (by rw [ei]; exact c0) (nm_r (nI_1 i) (ih _ (cp_af_f1 c0)))
    · refine br_f (by rw [ei]; exact c0) ⟨v, ?_⟩
      by_cases c : (a (3 * s + i) &&& (S ^^^ (-1))) = 0
      · exact br_t (by rw [ei]; exact c) (nm_e (nm_r (nI_1 i) (ih _ (cp_af_t c0 c))))
      · exact br_f (by rw [ei]; exact c) (nm_r (nI_1 i) (ih _ (cp_af_f2 c)))
theorem cy_sl {post : Int32 → SY → Prop} (g : Int32) (a f : Nat → Int32) (wa : ∀ i, cp_w (a i)) {d : Nat → Nat} (D : cp_D f d) (H : cp_far a g true d) {s m : Nat} (hs : s < 8) (hm : d s = m + 1) (hm9 : m < 98)
    (k : ∀ r, cp_first (fun i => bt (cp_af a s (cp_L a g true m) 3) i = true) r → post r (g, a, f)) : ∃ n, wY_sureAction_35 post (nI s) g a f n 0 := by
  refine loop_0 (fun n i (_ : Unit) => wY_sureAction_35 post (nI s) g a f n (nI i)) (fun i _ => ∀ j, j < i → ¬ bt (cp_af a s (cp_L a g true m) 3) j = true) 3 () (fun j hj => absurd hj (by omega)) ?_ ?_
  · intro n _ (h : ∀ j, j < 3 → ¬ bt (cp_af a s (cp_L a g true m) 3) j = true)
    exact br_t cp_y3 (k _ (Or.inr ⟨rfl, h⟩))
  · intro n i _ hi (h : ∀ j, j < i → ¬ bt (cp_af a s (cp_L a g true m) 3) j = true) ih
    have v : vp_in (3 * nI s + nI i) 24 := pk_in (3 * s + i) 24 (by omega) (cp_ixY s i)
    have ei : a (3 * nI s + nI i).toNatClampNeg = a (3 * s + i) := by rw [pk_cl (3 * s + i) (cp_ixY s i)]
    have ef : f (nI s).toNatClampNeg = nI (d s) := by
      rw [nI_clamp (by omega)]
      exact (D s hs).1
    have d99 := (D s hs).2
    refine br_f (cp_n3 hi) ⟨v, ?_⟩
    rw [ei]
    refine cy_out g a f D (wa _) true ?_
    rintro x ⟨q, hq, ex, hQ⟩
    subst ex
    have fit := cp_fit H hs hm hm9 (q := 3 * s + i) (by omega) (by omega) (wa _) hQ
    have bits := cp_af_bt a s (cp_L a g true m) i 3 (by omega)
    refine ⟨vp_in_nI hs (by decide), ?_⟩
    by_cases e : q + 1 = d s
    · refine br_t ?_ (k _ (Or.inl ⟨i, hi, rfl, bits.mpr ⟨hi, fit.mp e⟩, h⟩))
      rw [ef, nI_1, e]
    · refine br_f ?_ (nm_r (nI_1 i) (ih () fun j hj => ?_))
      · rw [ef, nI_1, nI_eq (by omega) (by omega)]
        exact e
      · by_cases z : j = i
        · rw [z]
          exact fun t => e (fit.mpr (bits.mp t).2)
        · exact h j (by omega)
theorem cy_pl {post : Int32 → SY → Prop} (g : Int32) (a f : Nat → Int32) (S : Int32) (k : post (nI (cp_pc a S 24)) (g, cp_pa a S 24, f)) : ∃ n, wY_prune_9 post S g n 0 0 a f := by
  refine loop_0 (fun n i s => wY_prune_9 post S g n s.1 (nI i) s.2 f) (fun i s => s = (nI (cp_pc a S i), cp_pa a S i)) 24 (0, a) rfl ?_ ?_
  · intro n s (hs : s = (nI (cp_pc a S 24), cp_pa a S 24))
    subst hs
    exact br_t cp_y24 k
  · intro n i s hi (hs : s = (nI (cp_pc a S i), cp_pa a S i)) ih
    subst hs
    have ha : cp_pa a S i (nI i).toNatClampNeg = a i := by
      rw [nI_clamp (by omega)]
      exact cp_pa_ge a S i i (Nat.le_refl i)
    refine br_f (cp_n24 hi) ⟨vp_in_nI hi (by decide), ?_⟩
    by_cases c : (a i &&& (S ^^^ (-1))) = 0
    · refine br_t (by dsimp only; rw [ha]; exact c) (nm_r (nI_1 i) (ih (nI (cp_pc a S i), cp_pa a S i) ?_))
      show (nI (cp_pc a S i), cp_pa a S i) = (nI (cp_pc a S (i + 1)), cp_pa a S (i + 1))
      rw [cp_pc_s, cp_pa_s, if_pos c, if_pos c]
    · refine br_f (by dsimp only; rw [ha]; exact c) ⟨vp_in_nI hi (by decide), nm_r (e' := upd (cp_pa a S i) i 0) (by rw [nI_clamp (by omega)]) (nm_r (nI_1 _) (nm_r (nI_1 i) (ih (nI (cp_pc a S i + 1), upd (cp_pa a S i) i 0) ?_)))⟩
      show (nI (cp_pc a S i + 1), upd (cp_pa a S i) i 0) = (nI (cp_pc a S (i + 1)), cp_pa a S (i + 1))
      rw [cp_pc_s, cp_pa_s, if_neg c, if_neg c]
theorem cy_hl {post : Int32 → SY → Prop} (g : Int32) (a f : Nat → Int32) (x y : Int32) (k : post (nI (cp_hc x y 8)) (g, a, f)) : ∃ n, wY_hopeful_15 post x y g a f n 0 0 := by
  refine loop_0 (fun n i s => wY_hopeful_15 post x y g a f n s (nI i)) (fun i s => s = nI (cp_hc x y i)) 8 0 rfl ?_ ?_
  · intro n s (hs : s = nI (cp_hc x y 8))
    subst hs
    exact br_t cp_y8 k
  · intro n i s hi (hs : s = nI (cp_hc x y i)) ih
    subst hs
    refine br_f (cp_n8 hi) ?_
    by_cases e : bt x i = true
    · refine cy_inT (by omega) e (br_f (by decide) ?_)
      by_cases e' : bt y i = true
      · exact cy_inT (by omega) e' (br_f (by decide) (nm_r (nI_1 i) (ih _ (cp_hc_f (fun z => z.2 e')))))
      · exact cy_inF (by omega) e' (br_t rfl (nm_r (cp_hc_t e e') (nm_r (nI_1 i) (ih _ rfl))))
    · exact cy_inF (by omega) e (br_t rfl (nm_r (nI_1 i) (ih _ (cp_hc_f (fun z => e z.1)))))
end
section
/-- both sides hold the same goal set and the same outcome sets, all of them sets of states; the reference's far is free -/
def i_Rel (_ : Nat) (u : SX) (v : SY) : Prop := ∃ (g : Int32) (a f : Nat → Int32), u = (g, a) ∧ v = (g, a, f) ∧ cp_w g ∧ ∀ i, cp_w (a i)
theorem i_up {k : Nat} {u : SX} {v : SY} (h : i_Rel k u v) : i_Rel (k + 4) u v := h
theorem i_vc0 : wpX_init (fun u => wpY_init (fun v => i_Rel 0 u v)) := ⟨0, fun _ => 0, fun _ => 0, rfl, rfl, cp_w0, fun _ => cp_w0⟩
theorem cp_case3 (x : Int32) : x < 0 ∨ (¬ x < 0 ∧ 3 ≤ x ∧ 2 < x) ∨ ∃ j, j < 3 ∧ x = nI j := by
  by_cases h : x < 0
  · exact Or.inl h
  · obtain ⟨j, hj, e⟩ := nI_of h
    rcases Nat.lt_or_ge j 3 with z | z
    · exact Or.inr (Or.inr ⟨j, z, e⟩)
    · refine Or.inr (Or.inl ⟨h, ?_, ?_⟩)
      · rw [e]
        exact nI_le (a := 3) z hj
      · rw [e]
        exact nI_lt (a := 2) (by omega) hj
theorem i_vc_action {k : Nat} {u : SX} {v : SY} (I : i_Rel k u v) (hk : k + 4 ≤ 2048) (v1 : Int32) (v2 : Int32) (v3 : Int32) : wpX_action (fun r u' => wpY_action (fun r' v' => r' = r ∧ i_Rel (k + 4) u' v') v v1 v2 v3) u v1 v2 v3 := by
  obtain ⟨g, a, f, rfl, rfl, wg, wa⟩ := I
  have R : i_Rel (k + 4) (g, a) (g, a, f) := ⟨g, a, f, rfl, rfl, wg, wa⟩
  unfold wpX_action
  rcases cp_case v1 with h | ⟨s, hs, rfl⟩
  · have Y : wpY_action (fun r' v' => r' = 0 ∧ i_Rel (k + 4) (g, a) v') (g, a, f) v1 v2 v3 := by
      unfold wpY_action
      exact cy_isF h (br_t rfl ⟨rfl, R⟩)
    exact cx_isF h (br_t rfl Y)
  · refine cx_isT hs (br_f (by decide) ?_)
    rcases cp_case3 v2 with h0 | ⟨h0, h3, h2⟩ | ⟨j, hj, rfl⟩
    · have Y : wpY_action (fun r' v' => r' = 0 ∧ i_Rel (k + 4) (g, a) v') (g, a, f) (nI s) v2 v3 := by
        unfold wpY_action
        exact cy_isT hs (br_f (by decide) (br_t h0 ⟨rfl, R⟩))
      exact br_t h0 Y
    · have Y : wpY_action (fun r' v' => r' = 0 ∧ i_Rel (k + 4) (g, a) v') (g, a, f) (nI s) v2 v3 := by
        unfold wpY_action
        exact cy_isT hs (br_f (by decide) (br_f h0 (br_t h2 ⟨rfl, R⟩)))
      exact br_f h0 (br_t h3 Y)
    · have h0 : ¬ nI j < 0 := nI_pos (by omega)
      have h2 : ¬ 2 < nI j := nI_nlt (a := 2) (by omega) (by decide)
      refine br_f h0 (br_f (cp_n3 hj) ?_)
      by_cases p0 : v3 < 0
      · have Y : wpY_action (fun r' v' => r' = 0 ∧ i_Rel (k + 4) (g, a) v') (g, a, f) (nI s) (nI j) v3 := by
          unfold wpY_action
          exact cy_isT hs (br_f (by decide) (br_f h0 (br_f h2 (br_t p0 ⟨rfl, R⟩))))
        exact br_t p0 (br_t rfl Y)
      · by_cases p2 : 255 < v3
        · have Y : wpY_action (fun r' v' => r' = 0 ∧ i_Rel (k + 4) (g, a) v') (g, a, f) (nI s) (nI j) v3 := by
            unfold wpY_action
            exact cy_isT hs (br_f (by decide) (br_f h0 (br_f h2 (br_f p0 (br_f (Int32.not_le.mpr p2) ⟨rfl, R⟩)))))
          exact br_f p0 (br_t p2 (br_t rfl Y))
        · have p2' : v3 ≤ 255 := Int32.not_lt.mp p2
          have w3 : cp_w v3 := cp_lt255 p0 p2'
          have Y : wpY_action (fun r' v' => r' = 1 ∧ i_Rel (k + 4) (g, upd a (3 * s + j) v3) v') (g, a, f) (nI s) (nI j) v3 := by
            unfold wpY_action
            exact cy_isT hs (br_f (by decide) (br_f h0 (br_f h2 (br_f p0 (br_t p2' ⟨pk_in (3 * s + j) 24 (by omega) (cp_ixY s j), nm_r (e' := upd a (3 * s + j) v3) (by rw [pk_cl (3 * s + j) (cp_ixY s j)]) ⟨rfl, g, upd a (3 * s + j) v3, f, rfl, rfl, wg, cp_updw wa w3 _⟩⟩)))))
          exact br_f p0 (br_f p2 (br_f (by decide) ⟨pk_in (3 * s + j) 24 (by omega) (cp_ixX s j), nm_r (e' := upd a (3 * s + j) v3) (by rw [pk_cl (3 * s + j) (cp_ixX s j)]) Y⟩))
theorem i_vc_goals {k : Nat} {u : SX} {v : SY} (I : i_Rel k u v) (hk : k + 4 ≤ 2048) (v1 : Int32) : wpX_goals (fun r u' => wpY_goals (fun r' v' => r' = r ∧ i_Rel (k + 4) u' v') v v1) u v1 := by
  obtain ⟨g, a, f, rfl, rfl, wg, wa⟩ := I
  have R : i_Rel (k + 4) (g, a) (g, a, f) := ⟨g, a, f, rfl, rfl, wg, wa⟩
  unfold wpX_goals
  by_cases p0 : v1 < 0
  · have Y : wpY_goals (fun r' v' => r' = 0 ∧ i_Rel (k + 4) (g, a) v') (g, a, f) v1 := br_t p0 ⟨rfl, R⟩
    exact br_t p0 (br_t rfl Y)
  · by_cases p2 : 255 < v1
    · have Y : wpY_goals (fun r' v' => r' = 0 ∧ i_Rel (k + 4) (g, a) v') (g, a, f) v1 := br_f p0 (br_f (Int32.not_le.mpr p2) ⟨rfl, R⟩)
      exact br_f p0 (br_t p2 (br_t rfl Y))
    · have p2' : v1 ≤ 255 := Int32.not_lt.mp p2
      have w1 : cp_w v1 := cp_lt255 p0 p2'
      have Y : wpY_goals (fun r' v' => r' = 1 ∧ i_Rel (k + 4) (v1, a) v') (g, a, f) v1 := br_f p0 (br_t p2' ⟨rfl, v1, a, f, rfl, rfl, w1, wa⟩)
      exact br_f p0 (br_f p2 (br_f (by decide) Y))
theorem i_vc_weak {k : Nat} {u : SX} {v : SY} (I : i_Rel k u v) (hk : k + 4 ≤ 2048) : wpX_weak (fun r => wpY_weak (fun r' v' => r' = r ∧ i_Rel (k + 4) u v') v) u := by
  obtain ⟨g, a, f, rfl, rfl, wg, wa⟩ := I
  refine cx_weak g a (cy_weak g a f wg wa fun f' => ⟨?_, g, a, f', rfl, rfl, wg, wa⟩)
  exact (cp_weak a g 8).symm
theorem i_vc_safe {k : Nat} {u : SX} {v : SY} (I : i_Rel k u v) (hk : k + 4 ≤ 2048) : wpX_safe (fun r => wpY_safe (fun r' => r' = r ∧ i_Rel (k + 4) u v) v) u := by
  obtain ⟨g, a, f, rfl, rfl, wg, wa⟩ := I
  exact cx_safe g a (cy_safe g a f wg ⟨rfl, g, a, f, rfl, rfl, wg, wa⟩)
theorem i_vc_sure {k : Nat} {u : SX} {v : SY} (I : i_Rel k u v) (hk : k + 4 ≤ 2048) : wpX_sure (fun r => wpY_sure (fun r' v' => r' = r ∧ i_Rel (k + 4) u v') v) u := by
  obtain ⟨g, a, f, rfl, rfl, wg, wa⟩ := I
  exact cx_sure g a (cy_sure g a f wg wa fun f' => ⟨rfl, g, a, f', rfl, rfl, wg, wa⟩)
theorem i_vc_steps {k : Nat} {u : SX} {v : SY} (I : i_Rel k u v) (hk : k + 4 ≤ 2048) (v1 : Int32) : wpX_steps (fun r => wpY_steps (fun r' v' => r' = r ∧ i_Rel (k + 4) u v') v v1) u v1 := by
  obtain ⟨g, a, f, rfl, rfl, wg, wa⟩ := I
  rcases cp_case v1 with h | ⟨s, hs, rfl⟩
  · refine cx_stepsF g a h ?_
    unfold wpY_steps
    exact cy_numF g a f h ⟨rfl, g, a, f, rfl, rfl, wg, wa⟩
  · refine cx_steps g a hs fun r N => ?_
    unfold wpY_steps
    exact cy_num g a f wg wa true hs N fun f' d _ _ => ⟨rfl, g, a, f', rfl, rfl, wg, wa⟩
theorem i_vc_luck {k : Nat} {u : SX} {v : SY} (I : i_Rel k u v) (hk : k + 4 ≤ 2048) (v1 : Int32) : wpX_luck (fun r => wpY_luck (fun r' v' => r' = r ∧ i_Rel (k + 4) u v') v v1) u v1 := by
  obtain ⟨g, a, f, rfl, rfl, wg, wa⟩ := I
  rcases cp_case v1 with h | ⟨s, hs, rfl⟩
  · refine cx_luckF g a h ?_
    unfold wpY_luck
    exact cy_numF g a f h ⟨rfl, g, a, f, rfl, rfl, wg, wa⟩
  · refine cx_luck g a hs fun r N => ?_
    unfold wpY_luck
    exact cy_num g a f wg wa false hs N fun f' d _ _ => ⟨rfl, g, a, f', rfl, rfl, wg, wa⟩
theorem i_vc_safeActions {k : Nat} {u : SX} {v : SY} (I : i_Rel k u v) (hk : k + 4 ≤ 2048) (v1 : Int32) : wpX_safeActions (fun r => wpY_safeActions (fun r' => r' = r ∧ i_Rel (k + 4) u v) v v1) u v1 := by
  obtain ⟨g, a, f, rfl, rfl, wg, wa⟩ := I
  have R : i_Rel (k + 4) (g, a) (g, a, f) := ⟨g, a, f, rfl, rfl, wg, wa⟩
  unfold wpX_safeActions
  rcases cp_case v1 with h | ⟨s, hs, rfl⟩
  · have Y : wpY_safeActions (fun r' => r' = 0 ∧ i_Rel (k + 4) (g, a) (g, a, f)) (g, a, f) v1 := by
      unfold wpY_safeActions
      exact cy_safe g a f wg (cy_isF h (br_t rfl ⟨rfl, R⟩))
    exact cx_isF h (br_t rfl Y)
  · refine cx_isT hs (br_f (by decide) ?_)
    by_cases e : bt g s = true
    · have Y : wpY_safeActions (fun r' => r' = 0 ∧ i_Rel (k + 4) (g, a) (g, a, f)) (g, a, f) (nI s) := by
        unfold wpY_safeActions
        exact cy_safe g a f wg (cy_isT hs (br_f (by decide) (cy_inT (by omega) e (br_f (by decide) ⟨rfl, R⟩))))
      exact cx_hT (by omega) e (br_f (by decide) Y)
    · refine cx_hF (by omega) e (br_t rfl (cx_safe g a ?_))
      by_cases e' : bt (cp_K a g 8) s = true
      · have Y : wpY_safeActions (fun r' => r' = cp_af a s (cp_K a g 8) 3 ∧ i_Rel (k + 4) (g, a) (g, a, f)) (g, a, f) (nI s) := by
          unfold wpY_safeActions
          exact cy_safe g a f wg (cy_isT hs (br_f (by decide) (cy_inF (by omega) e (br_t rfl (cy_inT (by omega) e' (br_f (by decide) (cy_al g a f hs _ ⟨rfl, R⟩)))))))
        exact cx_hT (by omega) e' (br_f (by decide) (cx_ai g a hs _ Y))
      · have Y : wpY_safeActions (fun r' => r' = 0 ∧ i_Rel (k + 4) (g, a) (g, a, f)) (g, a, f) (nI s) := by
          unfold wpY_safeActions
          exact cy_safe g a f wg (cy_isT hs (br_f (by decide) (cy_inF (by omega) e (br_t rfl (cy_inF (by omega) e' (br_t rfl ⟨rfl, R⟩))))))
        exact cx_hF (by omega) e' (br_t rfl Y)
theorem i_vc_sureAction {k : Nat} {u : SX} {v : SY} (I : i_Rel k u v) (hk : k + 4 ≤ 2048) (v1 : Int32) : wpX_sureAction (fun r => wpY_sureAction (fun r' v' => r' = r ∧ i_Rel (k + 4) u v') v v1) u v1 := by
  obtain ⟨g, a, f, rfl, rfl, wg, wa⟩ := I
  have R : ∀ f', i_Rel (k + 4) (g, a) (g, a, f') := fun f' => ⟨g, a, f', rfl, rfl, wg, wa⟩
  rcases cp_case v1 with h | ⟨s, hs, rfl⟩
  · have Y : wpY_sureAction (fun r' v' => r' = -2 ∧ i_Rel (k + 4) (g, a) v') (g, a, f) v1 := by
      unfold wpY_sureAction
      exact cy_isF h (br_t rfl ⟨rfl, R f⟩)
    unfold wpX_sureAction
    exact cx_stepsF g a h (br_f (by decide) Y)
  · refine cx_sureAction g a hs ?_ ?_
    · intro c
      unfold wpY_sureAction
      refine cy_isT hs (br_f (by decide) ?_)
      by_cases e : bt g s = true
      · exact cy_inT (by omega) e (br_f (by decide) ⟨rfl, R f⟩)
      · refine cy_inF (by omega) e (br_t rfl ?_)
        unfold wpY_steps
        exact cy_num g a f wg wa true hs (Or.inr ⟨rfl, c.resolve_left e⟩) fun f' d _ _ => br_t rfl ⟨rfl, R f'⟩
    · intro m hm h1 h2 r hr
      unfold wpY_sureAction
      refine cy_isT hs (br_f (by decide) (cy_inF (by omega) (h2 0 (by omega)) (br_t rfl ?_)))
      unfold wpY_steps
      refine cy_num g a f wg wa true hs (Or.inl ⟨m + 1, by omega, rfl, h1, h2⟩) fun f' d D H => br_f (cp_nm2 (by omega)) ?_
      have l1 := (H (m + 1) (by omega) s hs).mpr h1
      have l2 : ¬ d s ≤ m := fun z => h2 m (by omega) ((H m (by omega) s hs).mp z)
      exact cy_sl g a f' wa D H hs (by omega) (by omega) fun r' hr' => ⟨cp_first_u hr hr', R f'⟩
theorem i_vc_prune {k : Nat} {u : SX} {v : SY} (I : i_Rel k u v) (hk : k + 4 ≤ 2048) : wpX_prune (fun r u' => wpY_prune (fun r' v' => r' = r ∧ i_Rel (k + 4) u' v') v) u := by
  obtain ⟨g, a, f, rfl, rfl, wg, wa⟩ := I
  unfold wpX_prune
  refine cx_safe g a (cx_pl g a _ ?_)
  unfold wpY_prune
  exact cy_safe g a f wg (cy_pl g a f _ ⟨rfl, g, _, f, rfl, rfl, wg, cp_pa_w wa _ 24⟩)
theorem i_vc_hopeful {k : Nat} {u : SX} {v : SY} (I : i_Rel k u v) (hk : k + 4 ≤ 2048) : wpX_hopeful (fun r => wpY_hopeful (fun r' v' => r' = r ∧ i_Rel (k + 4) u v') v) u := by
  obtain ⟨g, a, f, rfl, rfl, wg, wa⟩ := I
  unfold wpX_hopeful
  refine cx_safe g a (cx_sure g a (nm_e (cx_hl g a _ _ ?_)))
  unfold wpY_hopeful
  exact cy_safe g a f wg (cy_sure g a f wg wa fun f' => cy_hl g a f' _ _ ⟨rfl, g, a, f', rfl, rfl, wg, wa⟩)
end
