/-! the actions of s that stay within S -/
def cp_af (a : Nat → Int32) (s : Nat) (S : Int32) : Nat → Int32
  | 0 => 0
  | n + 1 => if ¬ a (3 * s + n) = 0 ∧ (a (3 * s + n) &&& (S ^^^ (-1))) = 0 then cp_af a s S n ||| ((1 : Int32) <<< (nI n &&& 31)) else cp_af a s S n
theorem cp_af_s (a : Nat → Int32) (s : Nat) (S : Int32) (n : Nat) : cp_af a s S (n + 1) = if ¬ a (3 * s + n) = 0 ∧ (a (3 * s + n) &&& (S ^^^ (-1))) = 0 then cp_af a s S n ||| ((1 : Int32) <<< (nI n &&& 31)) else cp_af a s S n := rfl
theorem cp_af_t {a : Nat → Int32} {s : Nat} {S : Int32} {n : Nat} (h : ¬ a (3 * s + n) = 0) (h' : (a (3 * s + n) &&& (S ^^^ (-1))) = 0) : cp_af a s S n ||| ((1 : Int32) <<< (nI n &&& 31)) = cp_af a s S (n + 1) := by
  rw [cp_af_s, if_pos ⟨h, h'⟩]
theorem cp_af_f1 {a : Nat → Int32} {s : Nat} {S : Int32} {n : Nat} (h : a (3 * s + n) = 0) : cp_af a s S n = cp_af a s S (n + 1) := by
  rw [cp_af_s, if_neg (fun z => z.1 h)]
theorem cp_af_f2 {a : Nat → Int32} {s : Nat} {S : Int32} {n : Nat} (h : ¬ (a (3 * s + n) &&& (S ^^^ (-1))) = 0) : cp_af a s S n = cp_af a s S (n + 1) := by
  rw [cp_af_s, if_neg (fun z => h z.2)]
theorem cp_af_bt (a : Nat → Int32) (s : Nat) (S : Int32) (i : Nat) : ∀ n, n ≤ 3 → (bt (cp_af a s S n) i = true ↔ i < n ∧ ¬ a (3 * s + i) = 0 ∧ cp_sub (a (3 * s + i)) S) := by
  intro n
  induction n with
  | zero =>
    intro _
    exact ⟨fun h => (cp_tf h (b_0 i)).elim, fun h => absurd h.1 (by omega)⟩
  | succ n ih =>
    intro hn
    have q := ih (by omega)
    rw [cp_af_s]
    by_cases c : ¬ a (3 * s + n) = 0 ∧ (a (3 * s + n) &&& (S ^^^ (-1))) = 0
    · rw [if_pos c, cp_orT, cp_one (by omega), q]
      rw [cp_subI] at c
      constructor
      · rintro (⟨h1, h2⟩ | h)
        · exact ⟨by omega, h2⟩
        · rw [h]
          exact ⟨by omega, c⟩
      · rintro ⟨h1, h2⟩
        by_cases z : i = n
        · exact Or.inr z
        · exact Or.inl ⟨by omega, h2⟩
    · rw [if_neg c, q]
      rw [cp_subI] at c
      constructor
      · rintro ⟨h1, h2⟩
        exact ⟨by omega, h2⟩
      · rintro ⟨h1, h2⟩
        by_cases z : i = n
        · rw [z] at h2
          exact absurd h2 c
        · exact ⟨by omega, h2⟩
/-! the first action that fits -/
def cp_first (c : Nat → Prop) (r : Int32) : Prop := (∃ i, i < 3 ∧ r = nI i ∧ c i ∧ ∀ j, j < i → ¬ c j) ∨ (r = -2 ∧ ∀ j, j < 3 → ¬ c j)
theorem cp_first_u {c : Nat → Prop} {r r' : Int32} (h : cp_first c r) (h' : cp_first c r') : r' = r := by
  rcases h with ⟨i, hi, e, c1, c2⟩ | ⟨e, c2⟩
  · rcases h' with ⟨i', hi', e', c1', c2'⟩ | ⟨e', c2'⟩
    · have : i' = i := by
        rcases Nat.lt_trichotomy i i' with z | z | z
        · exact absurd c1 (c2' i z)
        · exact z.symm
        · exact absurd c1' (c2 i' z)
      rw [e, e', this]
    · exact absurd c1 (c2' i hi)
  · rcases h' with ⟨i', hi', e', c1', c2'⟩ | ⟨e', c2'⟩
    · exact absurd c1' (c2 i' hi')
    · rw [e, e']
/-! prune -/
def cp_pa (a : Nat → Int32) (S : Int32) : Nat → (Nat → Int32)
  | 0 => a
  | n + 1 => if (a n &&& (S ^^^ (-1))) = 0 then cp_pa a S n else upd (cp_pa a S n) n 0
def cp_pc (a : Nat → Int32) (S : Int32) : Nat → Nat
  | 0 => 0
  | n + 1 => if (a n &&& (S ^^^ (-1))) = 0 then cp_pc a S n else cp_pc a S n + 1
theorem cp_pa_s (a : Nat → Int32) (S : Int32) (n : Nat) : cp_pa a S (n + 1) = if (a n &&& (S ^^^ (-1))) = 0 then cp_pa a S n else upd (cp_pa a S n) n 0 := rfl
theorem cp_pc_s (a : Nat → Int32) (S : Int32) (n : Nat) : cp_pc a S (n + 1) = if (a n &&& (S ^^^ (-1))) = 0 then cp_pc a S n else cp_pc a S n + 1 := rfl
theorem cp_pa_ge (a : Nat → Int32) (S : Int32) : ∀ n i, n ≤ i → cp_pa a S n i = a i := by
  intro n
  induction n with
  | zero => intro i _; rfl
  | succ n ih =>
    intro i hi
    rw [cp_pa_s]
    by_cases c : (a n &&& (S ^^^ (-1))) = 0
    · rw [if_pos c]
      exact ih i (by omega)
    · rw [if_neg c, pk_un (by omega)]
      exact ih i (by omega)
theorem cp_updw {a : Nat → Int32} (w : ∀ i, cp_w (a i)) {x : Int32} (wx : cp_w x) (k : Nat) : ∀ i, cp_w (upd a k x i) := by
  intro i
  by_cases e : i = k
  · rw [e, pk_us]; exact wx
  · rw [pk_un e]; exact w i
theorem cp_pa_w {a : Nat → Int32} (w : ∀ i, cp_w (a i)) (S : Int32) : ∀ n i, cp_w (cp_pa a S n i) := by
  intro n
  induction n with
  | zero => exact w
  | succ n ih =>
    rw [cp_pa_s]
    by_cases c : (a n &&& (S ^^^ (-1))) = 0
    · rw [if_pos c]; exact ih
    · rw [if_neg c]; exact cp_updw ih cp_w0 n
theorem cp_pc_le (a : Nat → Int32) (S : Int32) : ∀ n, cp_pc a S n ≤ n := by
  intro n
  induction n with
  | zero => exact Nat.le_refl 0
  | succ n ih =>
    rw [cp_pc_s]
    by_cases c : (a n &&& (S ^^^ (-1))) = 0
    · rw [if_pos c]; omega
    · rw [if_neg c]; omega
/-! hopeful -/
def cp_hc (x y : Int32) : Nat → Nat
  | 0 => 0
  | n + 1 => if bt x n = true ∧ ¬ bt y n = true then cp_hc x y n + 1 else cp_hc x y n
theorem cp_hc_s (x y : Int32) (n : Nat) : cp_hc x y (n + 1) = if bt x n = true ∧ ¬ bt y n = true then cp_hc x y n + 1 else cp_hc x y n := rfl
theorem cp_hc_t {x y : Int32} {n : Nat} (h : bt x n = true) (h' : ¬ bt y n = true) : nI (cp_hc x y n) + 1 = nI (cp_hc x y (n + 1)) := by
  rw [cp_hc_s, if_pos ⟨h, h'⟩, nI_1]
theorem cp_hc_f {x y : Int32} {n : Nat} (h : ¬ (bt x n = true ∧ ¬ bt y n = true)) : nI (cp_hc x y n) = nI (cp_hc x y (n + 1)) := by
  rw [cp_hc_s, if_neg h]
theorem cp_andn (x y : Int32) {n : Nat} (h : n < 32) : bt (x &&& (y ^^^ (-1))) n = true ↔ bt x n = true ∧ ¬ bt y n = true := by
  rw [b_and, b_xor, b_m1 n h]
  cases bt x n <;> cases bt y n <;> decide
/-! s a state number -/
theorem cp_lt7 {x : Int32} (h0 : ¬ x < 0) (h : x ≤ 7) : ∃ s, s < 8 ∧ x = nI s := by
  obtain ⟨j, hj, e⟩ := nI_of2 (n := 7) (by decide) h0 h
  exact ⟨j, by omega, e⟩
theorem cp_lt255 {x : Int32} (h0 : ¬ x < 0) (h : x ≤ 255) : cp_w x := by
  obtain ⟨j, hj, e⟩ := nI_of2 (n := 255) (by decide) h0 h
  rw [e]
  exact cp_wn (by omega)
/-! small numbers -/
theorem cp_div3 {i : Nat} (h : i < 24) : nI i / 3 = nI (i / 3) := pk_div (d := 3) (by omega) (by decide) (by decide)
theorem cp_ixX (s n : Nat) : nI s * 3 + nI n = nI (3 * s + n) := by
  have h : nI s * 3 = nI (s * 3) := pk_mul s 3
  rw [h, nI_add, Nat.mul_comm]
theorem cp_ixY (s n : Nat) : 3 * nI s + nI n = nI (3 * s + n) := by
  have h : 3 * nI s = nI (3 * s) := pk_mul 3 s
  rw [h, nI_add]
theorem cp_3n : ¬ (3 : Int32) = 0 := by decide
theorem cp_n24 {i : Nat} (h : i < 24) : ¬ (24 : Int32) ≤ nI i := nI_ge (b := 24) h (by decide)
theorem cp_y24 : (24 : Int32) ≤ nI 24 := nI_le (a := 24) (b := 24) (by omega) (by decide)
theorem cp_n8 {i : Nat} (h : i < 8) : ¬ (8 : Int32) ≤ nI i := nI_ge (b := 8) h (by decide)
theorem cp_y8 : (8 : Int32) ≤ nI 8 := nI_le (a := 8) (b := 8) (by omega) (by decide)
theorem cp_n3 {i : Nat} (h : i < 3) : ¬ (3 : Int32) ≤ nI i := nI_ge (b := 3) h (by decide)
theorem cp_y3 : (3 : Int32) ≤ nI 3 := nI_le (a := 3) (b := 3) (by omega) (by decide)
theorem cp_n256 {i : Nat} (h : i < 256) : ¬ (256 : Int32) ≤ nI i := nI_ge (b := 256) h (by decide)
theorem cp_y256 : (256 : Int32) ≤ nI 256 := nI_le (a := 256) (b := 256) (by omega) (by decide)
