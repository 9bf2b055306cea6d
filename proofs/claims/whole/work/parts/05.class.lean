/-! the class's walks, each with a general post -/
theorem cp_L_T (a : Nat → Int32) (g : Int32) (n : Nat) : cp_T a (cp_L a g true n) (cp_L a g true n) = cp_L a g true (n + 1) := by
  rw [cp_L_n, cp_f_T]
  rfl
theorem cp_L_F (a : Nat → Int32) (g : Int32) (n : Nat) : cp_T a 255 (cp_L a g false n) = cp_L a g false (n + 1) := by
  rw [cp_L_n, cp_f_T]
  rfl
theorem cp_78 {x : Int32} (h : 8 ≤ x) : 7 < x := by
  have h7 : (7 : Int32).toInt = 7 := by decide
  have h8 : (8 : Int32).toInt = 8 := by decide
  rw [Int32.le_iff_toInt_le, h8] at h
  rw [Int32.lt_iff_toInt_lt, h7]
  omega
theorem cp_case (x : Int32) : (x < 0 ∨ 8 ≤ x) ∨ ∃ s, s < 8 ∧ x = nI s := by
  by_cases h : x < 0
  · exact Or.inl (Or.inl h)
  · obtain ⟨j, hj, e⟩ := nI_of h
    rcases Nat.lt_or_ge j 8 with z | z
    · exact Or.inr ⟨j, z, e⟩
    · refine Or.inl (Or.inr ?_)
      rw [e]
      exact nI_le (a := 8) z hj
theorem cx_isT {post : Int32 → Prop} {s : Nat} (hs : s < 8) (k : post 1) : wpX_isState post (nI s) := br_f (nI_pos (by omega)) (br_f (cp_n8 hs) k)
theorem cx_isF {post : Int32 → Prop} {x : Int32} (h : x < 0 ∨ 8 ≤ x) (k : post 0) : wpX_isState post x := by
  by_cases h0 : x < 0
  · exact br_t h0 k
  · exact br_f h0 (br_t (h.resolve_left h0) k)
theorem cx_hT {post : Int32 → Prop} {x : Int32} {s : Nat} (hs : s < 32) (e : bt x s = true) (k : post 1) : wpX_holds post x (nI s) := br_f (fun z => (cp_bit0 x hs).mp z e) k
theorem cx_hF {post : Int32 → Prop} {x : Int32} {s : Nat} (hs : s < 32) (e : ¬ bt x s = true) (k : post 0) : wpX_holds post x (nI s) := br_t ((cp_bit0 x hs).mpr e) k
theorem cx_osb {post : Int32 → Prop} (g : Int32) (a : Nat → Int32) (al re : Int32) (k : post (cp_T a al re)) : wpX_oneStepBack post (g, a) al re := by
  refine loop_0 (fun n i s => wX_oneStepBack_5 post al re g a n s (nI i)) (fun i s => s = cp_st a al re i) 24 re rfl ?_ ?_
  · intro n s (hs : s = cp_st a al re 24)
    subst hs
    exact br_t cp_y24 k
  · intro n i s hi (hs : s = cp_st a al re i) ih
    refine br_f (cp_n24 hi) ⟨vp_in_nI hi (by decide), nm_r (e' := a i) (by rw [nI_clamp (by omega)]) ?_⟩
    by_cases c1 : (a i &&& (al ^^^ (-1))) = 0
    · refine br_t c1 ?_
      by_cases c2 : (a i &&& re) = 0
      · refine br_t c2 (nm_r (nI_1 i) (ih s ?_))
        show s = cp_st a al re (i + 1)
        rw [hs, cp_st_s, if_neg (fun z => z.2 c2)]
      · refine br_f c2 ⟨cp_3n, nm_r (e' := s ||| ((1 : Int32) <<< (nI (i / 3) &&& 31))) (by rw [cp_div3 hi]) (nm_r (nI_1 i) (ih _ ?_))⟩
        show s ||| ((1 : Int32) <<< (nI (i / 3) &&& 31)) = cp_st a al re (i + 1)
        rw [hs, cp_st_s, if_pos ⟨c1, c2⟩]
    · refine br_f c1 (nm_r (nI_1 i) (ih s ?_))
      show s = cp_st a al re (i + 1)
      rw [hs, cp_st_s, if_neg (fun z => c1 z.1)]
theorem cx_rw {post : Int32 → Prop} (g : Int32) (a : Nat → Int32) (S : Int32) (k : post (cp_F a g S)) : wpX_reachingWithin post (g, a) S := by
  refine loop_0 (fun n i s => wX_reachingWithin_7 post S g a n s (nI i)) (fun i s => s = cp_it (cp_T a S) g i) 8 g rfl ?_ ?_
  · intro n s (hs : s = cp_it (cp_T a S) g 8)
    subst hs
    exact br_t cp_y8 k
  · intro n i s hi (hs : s = cp_it (cp_T a S) g i) ih
    subst hs
    exact br_f (cp_n8 hi) (cx_osb g a S _ (nm_r (nI_1 i) (ih _ (cp_it_s (cp_T a S) g i).symm)))
theorem cx_safe {post : Int32 → Prop} (g : Int32) (a : Nat → Int32) (k : post (cp_K a g 8)) : wpX_safe post (g, a) := by
  refine loop_0 (fun n i s => wX_safe_6 post g a n s (nI i)) (fun i s => s = cp_K a g i) 8 255 (cp_K_0 a g).symm ?_ ?_
  · intro n s (hs : s = cp_K a g 8)
    subst hs
    exact br_t cp_y8 k
  · intro n i s hi (hs : s = cp_K a g i) ih
    subst hs
    exact br_f (cp_n8 hi) (cx_rw g a _ (nm_r (nI_1 i) (ih _ (cp_K_s a g i).symm)))
theorem cx_sa {post : Int32 → Prop} (g : Int32) (a : Nat → Int32) {m : Nat} (hm : m ≤ 8) (k : post (cp_L a g true m)) : wpX_sureAfter post (g, a) (nI m) := by
  refine loop_0 (fun n i s => wX_sureAfter_7 post (nI m) g a n s (nI i)) (fun i s => s = cp_L a g true i) m g rfl ?_ ?_
  · intro n s (hs : s = cp_L a g true m)
    subst hs
    exact br_t (nI_le (Nat.le_refl m) (by omega)) k
  · intro n i s hi (hs : s = cp_L a g true i) ih
    subst hs
    exact br_f (nI_ge hi (by omega)) (br_f (cp_n8 (by omega)) (cx_osb g a _ _ (nm_r (nI_1 i) (ih _ (cp_L_T a g i)))))
theorem cx_weak {post : Int32 → Prop} (g : Int32) (a : Nat → Int32) (k : post (cp_F a g 255)) : wpX_weak post (g, a) := by
  unfold wpX_weak
  exact cx_rw g a 255 k
theorem cp_weak (a : Nat → Int32) (g : Int32) : ∀ n, cp_it (cp_T a 255) g n = cp_L a g false n := by
  intro n
  induction n with
  | zero => rfl
  | succ n ih => rw [cp_it_s, ih, cp_L_F]
theorem cx_sure {post : Int32 → Prop} (g : Int32) (a : Nat → Int32) (k : post (cp_L a g true 8)) : wpX_sure post (g, a) := by
  unfold wpX_sure
  exact cx_sa g a (m := 8) (by omega) k
theorem cx_stepsF {post : Int32 → Prop} (g : Int32) (a : Nat → Int32) {x : Int32} (h : x < 0 ∨ 8 ≤ x) (k : post (-1)) : wpX_steps post (g, a) x := by
  unfold wpX_steps
  exact cx_isF h (br_t rfl k)
theorem cx_luckF {post : Int32 → Prop} (g : Int32) (a : Nat → Int32) {x : Int32} (h : x < 0 ∨ 8 ≤ x) (k : post (-1)) : wpX_luck post (g, a) x := by
  unfold wpX_luck
  exact cx_isF h (br_t rfl k)
theorem cx_steps {post : Int32 → Prop} (g : Int32) (a : Nat → Int32) {s : Nat} (hs : s < 8) (k : ∀ r, cp_num a g true s r → post r) : wpX_steps post (g, a) (nI s) := by
  unfold wpX_steps
  refine cx_isT hs (br_f (by decide) ?_)
  refine loop_0 (fun n i x => wX_steps_16 post (nI s) g a n x (nI i)) (fun i x => x = cp_L a g true i ∧ ∀ j, j < i → ¬ bt (cp_L a g true j) s = true) 8 g ⟨rfl, fun j hj => absurd hj (by omega)⟩ ?_ ?_
  · intro n x (hx : x = cp_L a g true 8 ∧ ∀ j, j < 8 → ¬ bt (cp_L a g true j) s = true)
    exact br_t cp_y8 (k _ (Or.inr ⟨rfl, hx.2 7 (by omega)⟩))
  · intro n i x hi (hx : x = cp_L a g true i ∧ ∀ j, j < i → ¬ bt (cp_L a g true j) s = true) ih
    obtain ⟨hx, h⟩ := hx
    subst hx
    refine br_f (cp_n8 hi) ?_
    by_cases e : bt (cp_L a g true i) s = true
    · exact cx_hT (by omega) e (br_f (by decide) (k _ (Or.inl ⟨i, hi, rfl, e, h⟩)))
    · refine cx_hF (by omega) e (br_t rfl (cx_osb g a _ _ (nm_r (nI_1 i) (ih _ ⟨cp_L_T a g i, fun j hj => ?_⟩))))
      by_cases z : j = i
      · rw [z]; exact e
      · exact h j (by omega)
theorem cx_luck {post : Int32 → Prop} (g : Int32) (a : Nat → Int32) {s : Nat} (hs : s < 8) (k : ∀ r, cp_num a g false s r → post r) : wpX_luck post (g, a) (nI s) := by
  unfold wpX_luck
  refine cx_isT hs (br_f (by decide) ?_)
  refine loop_0 (fun n i x => wX_luck_16 post (nI s) g a n x (nI i)) (fun i x => x = cp_L a g false i ∧ ∀ j, j < i → ¬ bt (cp_L a g false j) s = true) 8 g ⟨rfl, fun j hj => absurd hj (by omega)⟩ ?_ ?_
  · intro n x (hx : x = cp_L a g false 8 ∧ ∀ j, j < 8 → ¬ bt (cp_L a g false j) s = true)
    exact br_t cp_y8 (k _ (Or.inr ⟨rfl, hx.2 7 (by omega)⟩))
  · intro n i x hi (hx : x = cp_L a g false i ∧ ∀ j, j < i → ¬ bt (cp_L a g false j) s = true) ih
    obtain ⟨hx, h⟩ := hx
    subst hx
    refine br_f (cp_n8 hi) ?_
    by_cases e : bt (cp_L a g false i) s = true
    · exact cx_hT (by omega) e (br_f (by decide) (k _ (Or.inl ⟨i, hi, rfl, e, h⟩)))
    · refine cx_hF (by omega) e (br_t rfl (cx_osb g a _ _ (nm_r (nI_1 i) (ih _ ⟨cp_L_F a g i, fun j hj => ?_⟩))))
      by_cases z : j = i
      · rw [z]; exact e
      · exact h j (by omega)
theorem cx_ai {post : Int32 → Prop} (g : Int32) (a : Nat → Int32) {s : Nat} (hs : s < 8) (S : Int32) (k : post (cp_af a s S 3)) : wpX_actionsInto post (g, a) (nI s) S := by
  refine loop_0 (fun n i x => wX_actionsInto_5 post (nI s) S g a n x (nI i)) (fun i x => x = cp_af a s S i) 3 0 rfl ?_ ?_
  · intro n x (hx : x = cp_af a s S 3)
    subst hx
    exact br_t cp_y3 k
  · intro n i x hi (hx : x = cp_af a s S i) ih
    subst hx
    refine br_f (cp_n3 hi) ⟨pk_in (3 * s + i) 24 (by omega) (cp_ixX s i), nm_r (e' := a (3 * s + i)) (by rw [pk_cl (3 * s + i) (cp_ixX s i)]) ?_⟩
    by_cases c0 : a (3 * s + i) = 0
    · exact br_t c0 (nm_r (nI_1 i) (ih _ (cp_af_f1 c0)))
    · refine br_f c0 ?_
      by_cases c : (a (3 * s + i) &&& (S ^^^ (-1))) = 0
      · exact br_t c (nm_e (nm_r (nI_1 i) (ih _ (cp_af_t c0 c))))
      · exact br_f c (nm_r (nI_1 i) (ih _ (cp_af_f2 c)))
theorem cx_sl {post : Int32 → Prop} (g : Int32) (a : Nat → Int32) (x : Int32) (k : ∀ r, cp_first (fun i => bt x i = true) r → post r) : ∃ n, wX_sureAction_33 post x g a n 0 := by
  refine loop_0 (fun n i (_ : Unit) => wX_sureAction_33 post x g a n (nI i)) (fun i _ => ∀ j, j < i → ¬ bt x j = true) 3 () (fun j hj => absurd hj (by omega)) ?_ ?_
  · intro n _ (h : ∀ j, j < 3 → ¬ bt x j = true)
    exact br_t cp_y3 (k _ (Or.inr ⟨rfl, h⟩))
  · intro n i _ hi (h : ∀ j, j < i → ¬ bt x j = true) ih
    refine br_f (cp_n3 hi) ?_
    by_cases e : bt x i = true
    · exact cx_hT (by omega) e (br_f (by decide) (k _ (Or.inl ⟨i, hi, rfl, e, h⟩)))
    · refine cx_hF (by omega) e (br_t rfl (nm_r (nI_1 i) (ih () fun j hj => ?_)))
      by_cases z : j = i
      · rw [z]; exact e
      · exact h j (by omega)
theorem cp_nm2 {m : Nat} (h : m < 2 ^ 31) : ¬ nI m = -2 := by
  intro e
  have t := nI_toInt h
  have h2 : (-2 : Int32).toInt = -2 := by decide
  rw [e, h2] at t
  omega
theorem cx_sureAction {post : Int32 → Prop} (g : Int32) (a : Nat → Int32) {s : Nat} (hs : s < 8) (k0 : (bt g s = true ∨ ¬ bt (cp_L a g true 7) s = true) → post (-2))
    (k1 : ∀ m, m < 7 → bt (cp_L a g true (m + 1)) s = true → (∀ j, j < m + 1 → ¬ bt (cp_L a g true j) s = true) → ∀ r, cp_first (fun i => bt (cp_af a s (cp_L a g true m) 3) i = true) r → post r) : wpX_sureAction post (g, a) (nI s) := by
  unfold wpX_sureAction
  refine cx_steps g a hs ?_
  rintro r (⟨q, hq, e, h1, h2⟩ | ⟨e, h⟩)
  · cases q with
    | zero =>
      subst e
      refine br_f (nI_ge (b := 1) (by omega) (by decide)) (k0 (Or.inl h1))
    | succ m =>
      subst e
      refine br_t (nI_le (a := 1) (by omega) (by omega)) ?_
      rw [nI_pred]
      exact cx_sa g a (by omega) (cx_ai g a hs _ (cx_sl g a _ (k1 m (by omega) h1 h2)))
  · subst e
    exact br_f (by decide) (k0 (Or.inr h))
theorem cx_pl {post : Int32 → SX → Prop} (g : Int32) (a : Nat → Int32) (S : Int32) (k : post (nI (cp_pc a S 24)) (g, cp_pa a S 24)) : ∃ n, wX_prune_9 post S g n 0 0 a := by
  refine loop_0 (fun n i s => wX_prune_9 post S g n s.1 (nI i) s.2) (fun i s => s = (nI (cp_pc a S i), cp_pa a S i)) 24 (0, a) rfl ?_ ?_
  · intro n s (hs : s = (nI (cp_pc a S 24), cp_pa a S 24))
    subst hs
    exact br_t cp_y24 k
  · intro n i s hi (hs : s = (nI (cp_pc a S i), cp_pa a S i)) ih
    subst hs
    have ha : cp_pa a S i (nI i).toNatClampNeg = a i := by
      rw [nI_clamp (by omega)]
      exact cp_pa_ge a S i i (Nat.le_refl i)
    refine br_f (cp_n24 hi) ⟨vp_in_nI hi (by decide), ?_⟩
    by_cases c : (a i &&& (S ^^^ (-1))) = 0
    · refine br_t (by dsimp only; rw [ha]; exact c) (nm_r (nI_1 i) (ih (nI (cp_pc a S i), cp_pa a S i) ?_))
      show (nI (cp_pc a S i), cp_pa a S i) = (nI (cp_pc a S (i + 1)), cp_pa a S (i + 1))
      rw [cp_pc_s, cp_pa_s, if_pos c, if_pos c]
    · refine br_f (by dsimp only; rw [ha]; exact c) ⟨vp_in_nI hi (by decide), nm_r (e' := upd (cp_pa a S i) i 0) (by rw [nI_clamp (by omega)]) (nm_r (nI_1 _) (nm_r (nI_1 i) (ih (nI (cp_pc a S i + 1), upd (cp_pa a S i) i 0) ?_)))⟩
      show (nI (cp_pc a S i + 1), upd (cp_pa a S i) i 0) = (nI (cp_pc a S (i + 1)), cp_pa a S (i + 1))
      rw [cp_pc_s, cp_pa_s, if_neg c, if_neg c]
theorem cx_hl {post : Int32 → Prop} (g : Int32) (a : Nat → Int32) (x y : Int32) (k : post (nI (cp_hc x y 8))) : ∃ n, wX_hopeful_22 post (x &&& (y ^^^ (-1))) g a n 0 0 := by
  refine loop_0 (fun n i s => wX_hopeful_22 post (x &&& (y ^^^ (-1))) g a n s (nI i)) (fun i s => s = nI (cp_hc x y i)) 8 0 rfl ?_ ?_
  · intro n s (hs : s = nI (cp_hc x y 8))
    subst hs
    exact br_t cp_y8 k
  · intro n i s hi (hs : s = nI (cp_hc x y i)) ih
    subst hs
    refine br_f (cp_n8 hi) ?_
    by_cases e : bt x i = true ∧ ¬ bt y i = true
    · exact cx_hT (by omega) ((cp_andn x y (by omega)).mpr e) (br_f (by decide) (nm_r (cp_hc_t e.1 e.2) (nm_r (nI_1 i) (ih _ rfl))))
    · exact cx_hF (by omega) (fun z => e ((cp_andn x y (by omega)).mp z)) (br_t rfl (nm_r (nI_1 i) (ih _ (cp_hc_f e))))
