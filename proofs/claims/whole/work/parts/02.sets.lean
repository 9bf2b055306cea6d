/-! iterates that grow or fall come to a stop -/
def cp_it (f : Int32 → Int32) (x : Int32) : Nat → Int32
  | 0 => x
  | n + 1 => f (cp_it f x n)
theorem cp_it_s (f : Int32 → Int32) (x : Int32) (n : Nat) : cp_it f x (n + 1) = f (cp_it f x n) := rfl
theorem cp_seq (f : Int32 → Int32) (μ : Int32 → Nat) (x : Int32) (h : ∀ n, cp_it f x (n + 1) = cp_it f x n ∨ μ (cp_it f x (n + 1)) < μ (cp_it f x n)) :
    ∀ n, cp_it f x (n + 1) = cp_it f x n ∨ μ (cp_it f x (n + 1)) + (n + 1) ≤ μ x := by
  intro n
  induction n with
  | zero =>
    rcases h 0 with e | e
    · exact Or.inl e
    · have e' : μ (cp_it f x (0 + 1)) < μ x := e
      exact Or.inr (by omega)
  | succ n ih =>
    rcases ih with e | e
    · exact Or.inl (congrArg f e)
    · rcases h (n + 1) with c | c
      · exact Or.inl c
      · exact Or.inr (by omega)
theorem cp_stop {f : Int32 → Int32} {x : Int32} {n : Nat} (h : cp_it f x (n + 1) = cp_it f x n) : ∀ m, n ≤ m → cp_it f x m = cp_it f x n := by
  intro m
  induction m with
  | zero =>
    intro hm
    have : n = 0 := by omega
    rw [this]
  | succ m ih =>
    intro hm
    by_cases e : n = m + 1
    · rw [e]
    · have i := ih (by omega)
      show f (cp_it f x m) = _
      rw [i]
      exact h
theorem cp_it_w {f : Int32 → Int32} (hw : ∀ x, cp_w x → cp_w (f x)) {x : Int32} (w : cp_w x) : ∀ n, cp_w (cp_it f x n) := by
  intro n
  induction n with
  | zero => exact w
  | succ n ih => exact hw _ ih
theorem cp_it_up {f : Int32 → Int32} (hi : ∀ x, cp_sub x (f x)) (x : Int32) : ∀ m n, n ≤ m → cp_sub (cp_it f x n) (cp_it f x m) := by
  intro m
  induction m with
  | zero =>
    intro n hn
    have : n = 0 := by omega
    rw [this]
    exact cp_sub_rfl _
  | succ m ih =>
    intro n hn
    by_cases e : n = m + 1
    · rw [e]
      exact cp_sub_rfl _
    · exact cp_sub_tr (ih n (by omega)) (hi _)
theorem cp_it_0 {f : Int32 → Int32} (h0 : f 0 = 0) : ∀ n, cp_it f 0 n = 0 := by
  intro n
  induction n with
  | zero => rfl
  | succ n ih =>
    show f (cp_it f 0 n) = 0
    rw [ih, h0]
theorem cp_lev {f : Int32 → Int32} (hi : ∀ x, cp_sub x (f x)) (hw : ∀ x, cp_w x → cp_w (f x)) (h0 : f 0 = 0) {g : Int32} (wg : cp_w g) : cp_it f g (7 + 1) = cp_it f g 7 := by
  have q := cp_seq f (fun y => 8 - cp_cn y 8) g (fun n => by
    by_cases e : cp_it f g (n + 1) = cp_it f g n
    · exact Or.inl e
    · refine Or.inr ?_
      have l := cp_grow (hi (cp_it f g n)) (cp_it_w hw wg (n + 1)) e
      have b := cp_cn_le (cp_it f g (n + 1)) 8
      have l' : cp_cn (cp_it f g n) 8 < cp_cn (cp_it f g (n + 1)) 8 := l
      show 8 - cp_cn (cp_it f g (n + 1)) 8 < 8 - cp_cn (cp_it f g n) 8
      omega) 7
  rcases q with e | e
  · exact e
  · have e' : 8 - cp_cn (cp_it f g (7 + 1)) 8 + (7 + 1) ≤ 8 - cp_cn g 8 := e
    have z : cp_cn g 8 = 0 := by omega
    rw [cp_cn0 wg z, cp_it_0 h0, cp_it_0 h0]
/-! one step back -/
def cp_ok (al re o : Int32) : Prop := cp_sub o al ∧ cp_mt o re
def cp_st (a : Nat → Int32) (al re : Int32) : Nat → Int32
  | 0 => re
  | n + 1 => if (a n &&& (al ^^^ (-1))) = 0 ∧ ¬ (a n &&& re) = 0 then cp_st a al re n ||| ((1 : Int32) <<< (nI (n / 3) &&& 31)) else cp_st a al re n
theorem cp_st_s (a : Nat → Int32) (al re : Int32) (n : Nat) : cp_st a al re (n + 1) = if (a n &&& (al ^^^ (-1))) = 0 ∧ ¬ (a n &&& re) = 0 then cp_st a al re n ||| ((1 : Int32) <<< (nI (n / 3) &&& 31)) else cp_st a al re n := rfl
def cp_T (a : Nat → Int32) (al re : Int32) : Int32 := cp_st a al re 24
theorem cp_okI (al re o : Int32) : ((o &&& (al ^^^ (-1))) = 0 ∧ ¬ (o &&& re) = 0) ↔ cp_ok al re o := by
  rw [cp_subI, cp_mtI]
  exact Iff.rfl
theorem cp_st_bt (a : Nat → Int32) (al re : Int32) (s : Nat) : ∀ n, n ≤ 24 → (bt (cp_st a al re n) s = true ↔ bt re s = true ∨ ∃ k, k < n ∧ k / 3 = s ∧ cp_ok al re (a k)) := by
  intro n
  induction n with
  | zero =>
    intro _
    exact ⟨fun h => Or.inl h, fun h => h.elim id (fun ⟨k, hk, _⟩ => absurd hk (by omega))⟩
  | succ n ih =>
    intro hn
    have i := ih (by omega)
    rw [cp_st_s]
    by_cases c : (a n &&& (al ^^^ (-1))) = 0 ∧ ¬ (a n &&& re) = 0
    · rw [if_pos c, cp_orT, cp_one (by omega), i]
      have o := (cp_okI al re (a n)).mp c
      constructor
      · rintro ((h | ⟨k, hk, e, ho⟩) | h)
        · exact Or.inl h
        · exact Or.inr ⟨k, by omega, e, ho⟩
        · exact Or.inr ⟨n, by omega, h.symm, o⟩
      · rintro (h | ⟨k, hk, e, ho⟩)
        · exact Or.inl (Or.inl h)
        · by_cases ek : k = n
          · exact Or.inr (by rw [← e, ek])
          · exact Or.inl (Or.inr ⟨k, by omega, e, ho⟩)
    · rw [if_neg c, i]
      have o : ¬ cp_ok al re (a n) := fun h => c ((cp_okI al re (a n)).mpr h)
      constructor
      · rintro (h | ⟨k, hk, e, ho⟩)
        · exact Or.inl h
        · exact Or.inr ⟨k, by omega, e, ho⟩
      · rintro (h | ⟨k, hk, e, ho⟩)
        · exact Or.inl h
        · by_cases ek : k = n
          · rw [ek] at ho
            exact absurd ho o
          · exact Or.inr ⟨k, by omega, e, ho⟩
theorem cp_T_bt (a : Nat → Int32) (al re : Int32) (s : Nat) : bt (cp_T a al re) s = true ↔ bt re s = true ∨ ∃ k, k < 24 ∧ k / 3 = s ∧ cp_ok al re (a k) :=
  cp_st_bt a al re s 24 (by omega)
theorem cp_T_up (a : Nat → Int32) (al re : Int32) : cp_sub re (cp_T a al re) := fun s h => (cp_T_bt a al re s).mpr (Or.inl h)
theorem cp_T_w {a : Nat → Int32} {al re : Int32} (w : cp_w re) : cp_w (cp_T a al re) := by
  intro i hi
  refine cp_bf fun e => ?_
  rcases (cp_T_bt a al re i).mp e with h | ⟨k, hk, ek, _⟩
  · exact cp_tf h (w i hi)
  · omega
theorem cp_T_0 (a : Nat → Int32) (al : Int32) : cp_T a al 0 = 0 := by
  rw [cp_eq0]
  intro i
  refine cp_bf fun e => ?_
  rcases (cp_T_bt a al 0 i).mp e with h | ⟨k, hk, ek, _, j, _, hj⟩
  · exact cp_tf h (b_0 i)
  · exact cp_tf hj (b_0 j)
theorem cp_ok_mono {al al' re re' o : Int32} (h : cp_ok al re o) (h1 : cp_sub al al') (h2 : cp_sub re re') : cp_ok al' re' o :=
  ⟨cp_sub_tr h.1 h1, cp_mt_mono h.2 h2⟩
theorem cp_T_mono (a : Nat → Int32) {al al' re re' : Int32} (h1 : cp_sub al al') (h2 : cp_sub re re') : cp_sub (cp_T a al re) (cp_T a al' re') := by
  intro s h
  rcases (cp_T_bt a al re s).mp h with h | ⟨k, hk, e, ho⟩
  · exact (cp_T_bt a al' re' s).mpr (Or.inl (h2 s h))
  · exact (cp_T_bt a al' re' s).mpr (Or.inr ⟨k, hk, e, cp_ok_mono ho h1 h2⟩)
/-! the levels: b for 'all outcomes count' -/
def cp_al (b : Bool) (r : Int32) : Int32 := cond b r 255
def cp_f (a : Nat → Int32) (b : Bool) (r : Int32) : Int32 := cp_T a (cp_al b r) r
def cp_L (a : Nat → Int32) (g : Int32) (b : Bool) (n : Nat) : Int32 := cp_it (cp_f a b) g n
theorem cp_L_up (a : Nat → Int32) (g : Int32) (b : Bool) {n m : Nat} (h : n ≤ m) : cp_sub (cp_L a g b n) (cp_L a g b m) :=
  cp_it_up (f := cp_f a b) (fun x => cp_T_up a _ x) g m n h
theorem cp_L_w (a : Nat → Int32) {g : Int32} (w : cp_w g) (b : Bool) (n : Nat) : cp_w (cp_L a g b n) :=
  cp_it_w (f := cp_f a b) (fun _ hx => cp_T_w hx) w n
theorem cp_L_7 (a : Nat → Int32) {g : Int32} (w : cp_w g) (b : Bool) : ∀ m, 7 ≤ m → cp_L a g b m = cp_L a g b 7 :=
  cp_stop (f := cp_f a b) (x := g) (n := 7) (cp_lev (f := cp_f a b) (fun x => cp_T_up a _ x) (fun _ hx => cp_T_w hx) (cp_T_0 a _) w)
theorem cp_L_n (a : Nat → Int32) (g : Int32) (b : Bool) (n : Nat) : cp_L a g b (n + 1) = cp_f a b (cp_L a g b n) := cp_it_s (cp_f a b) g n
theorem cp_f_T (a : Nat → Int32) (b : Bool) (r : Int32) : cp_f a b r = cp_T a (cp_al b r) r := rfl
theorem cp_L_s (a : Nat → Int32) (g : Int32) (b : Bool) (n s : Nat) : bt (cp_L a g b (n + 1)) s = true ↔ bt (cp_L a g b n) s = true ∨ ∃ k, k < 24 ∧ k / 3 = s ∧ cp_ok (cp_al b (cp_L a g b n)) (cp_L a g b n) (a k) := by
  rw [cp_L_n, cp_f_T]
  exact cp_T_bt a _ _ s
/-! what is kept safe -/
def cp_F (a : Nat → Int32) (g S : Int32) : Int32 := cp_it (cp_T a S) g 8
def cp_K (a : Nat → Int32) (g : Int32) (n : Nat) : Int32 := cp_it (cp_F a g) 255 n
theorem cp_F_w (a : Nat → Int32) {g : Int32} (w : cp_w g) (S : Int32) : cp_w (cp_F a g S) := cp_it_w (f := cp_T a S) (fun _ hx => cp_T_w hx) w 8
theorem cp_F_g (a : Nat → Int32) (g S : Int32) : cp_sub g (cp_F a g S) := cp_it_up (f := cp_T a S) (fun x => cp_T_up a S x) g 8 0 (by omega)
theorem cp_F_lev (a : Nat → Int32) (g S : Int32) {r : Nat} (h : r ≤ 8) : cp_sub (cp_it (cp_T a S) g r) (cp_F a g S) := cp_it_up (f := cp_T a S) (fun x => cp_T_up a S x) g 8 r h
theorem cp_F_it_mono (a : Nat → Int32) (g : Int32) {S S' : Int32} (h : cp_sub S S') : ∀ n, cp_sub (cp_it (cp_T a S) g n) (cp_it (cp_T a S') g n) := by
  intro n
  induction n with
  | zero => exact cp_sub_rfl _
  | succ n ih =>
    rw [cp_it_s, cp_it_s]
    exact cp_T_mono a h ih
theorem cp_F_mono (a : Nat → Int32) (g : Int32) {S S' : Int32} (h : cp_sub S S') : cp_sub (cp_F a g S) (cp_F a g S') := cp_F_it_mono a g h 8
theorem cp_F_cl (a : Nat → Int32) {g : Int32} (w : cp_w g) (S : Int32) : cp_T a S (cp_F a g S) = cp_F a g S := by
  have h := cp_lev (f := cp_T a S) (fun x => cp_T_up a S x) (fun _ hx => cp_T_w hx) (cp_T_0 a S) w
  have h9 := cp_stop h 9 (by omega)
  have h8 := cp_stop h 8 (by omega)
  unfold cp_F
  rw [← cp_it_s (cp_T a S) g 8]
  exact h9.trans h8.symm
theorem cp_K_s (a : Nat → Int32) (g : Int32) (n : Nat) : cp_K a g (n + 1) = cp_F a g (cp_K a g n) := cp_it_s (cp_F a g) 255 n
theorem cp_K_0 (a : Nat → Int32) (g : Int32) : cp_K a g 0 = 255 := rfl
theorem cp_K_fall (a : Nat → Int32) {g : Int32} (w : cp_w g) : ∀ n, cp_sub (cp_K a g (n + 1)) (cp_K a g n) := by
  intro n
  induction n with
  | zero =>
    rw [cp_K_s, cp_K_0]
    exact cp_sub255 (cp_F_w a w 255)
  | succ n ih =>
    have h := cp_F_mono a g ih
    rw [← cp_K_s, ← cp_K_s] at h
    exact h
theorem cp_K_w (a : Nat → Int32) {g : Int32} (w : cp_w g) : ∀ n, cp_w (cp_K a g n) := cp_it_w (f := cp_F a g) (fun x _ => cp_F_w a w x) cp_w255
theorem cp_K_8 (a : Nat → Int32) {g : Int32} (w : cp_w g) : cp_F a g (cp_K a g 8) = cp_K a g 8 := by
  have q := cp_seq (cp_F a g) (fun y => cp_cn y 8) 255 (fun n => by
    by_cases e : cp_it (cp_F a g) 255 (n + 1) = cp_it (cp_F a g) 255 n
    · exact Or.inl e
    · exact Or.inr (cp_grow (cp_K_fall a w n) (cp_K_w a w n) (fun z => e z.symm))) 8
  rcases q with e | e
  · rw [← cp_K_s]
    exact e
  · have e' : cp_cn (cp_it (cp_F a g) 255 (8 + 1)) 8 + (8 + 1) ≤ cp_cn 255 8 := e
    have b := cp_cn_le 255 8
    omega
theorem cp_K_in (a : Nat → Int32) (g : Int32) {S : Int32} (w : cp_w S) (h : cp_sub S (cp_F a g S)) : ∀ n, cp_sub S (cp_K a g n) := by
  intro n
  induction n with
  | zero =>
    rw [cp_K_0]
    exact cp_sub255 w
  | succ n ih =>
    rw [cp_K_s]
    exact cp_sub_tr h (cp_F_mono a g ih)
theorem cp_K_g (a : Nat → Int32) {g : Int32} (w : cp_w g) : cp_sub g (cp_K a g 8) := by
  rw [← cp_K_8 a w]
  exact cp_F_g a g _
