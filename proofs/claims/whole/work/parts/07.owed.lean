/-- both sides hold the same goal set and the same outcome sets, all of them sets of states; the reference's far is free -/
def i_Rel (_ : Nat) (u : SX) (v : SY) : Prop := ∃ (g : Int32) (a f : Nat → Int32), u = (g, a) ∧ v = (g, a, f) ∧ cp_w g ∧ ∀ i, cp_w (a i)
theorem i_up {k : Nat} {u : SX} {v : SY} (h : i_Rel k u v) : i_Rel (k + 4) u v := h
theorem i_vc0 : wpX_init (fun u => wpY_init (fun v => i_Rel 0 u v)) := ⟨0, fun _ => 0, fun _ => 0, rfl, rfl, cp_w0, fun _ => cp_w0⟩
theorem cp_case3 (x : Int32) : x < 0 ∨ (¬ x < 0 ∧ 3 ≤ x ∧ 2 < x) ∨ ∃ j, j < 3 ∧ x = nI j := by
  by_cases h : x < 0
  · exact Or.inl h
  · obtain ⟨j, hj, e⟩ := nI_of h
    rcases Nat.lt_or_ge j 3 with z | z
    · exact Or.inr (Or.inr ⟨j, z, e⟩)
    · refine Or.inr (Or.inl ⟨h, ?_, ?_⟩)
      · rw [e]
        exact nI_le (a := 3) z hj
      · rw [e]
        exact nI_lt (a := 2) (by omega) hj
theorem i_vc_action {k : Nat} {u : SX} {v : SY} (I : i_Rel k u v) (hk : k + 4 ≤ 2048) (v1 : Int32) (v2 : Int32) (v3 : Int32) : wpX_action (fun r u' => wpY_action (fun r' v' => r' = r ∧ i_Rel (k + 4) u' v') v v1 v2 v3) u v1 v2 v3 := by
  obtain ⟨g, a, f, rfl, rfl, wg, wa⟩ := I
  have R : i_Rel (k + 4) (g, a) (g, a, f) := ⟨g, a, f, rfl, rfl, wg, wa⟩
  unfold wpX_action
  rcases cp_case v1 with h | ⟨s, hs, rfl⟩
  · have Y : wpY_action (fun r' v' => r' = 0 ∧ i_Rel (k + 4) (g, a) v') (g, a, f) v1 v2 v3 := by
      unfold wpY_action
      exact cy_isF h (br_t rfl ⟨rfl, R⟩)
    exact cx_isF h (br_t rfl Y)
  · refine cx_isT hs (br_f (by decide) ?_)
    rcases cp_case3 v2 with h0 | ⟨h0, h3, h2⟩ | ⟨j, hj, rfl⟩
    · have Y : wpY_action (fun r' v' => r' = 0 ∧ i_Rel (k + 4) (g, a) v') (g, a, f) (nI s) v2 v3 := by
        unfold wpY_action
        exact cy_isT hs (br_f (by decide) (br_t h0 ⟨rfl, R⟩))
      exact br_t h0 Y
    · have Y : wpY_action (fun r' v' => r' = 0 ∧ i_Rel (k + 4) (g, a) v') (g, a, f) (nI s) v2 v3 := by
        unfold wpY_action
        exact cy_isT hs (br_f (by decide) (br_f h0 (br_t h2 ⟨rfl, R⟩)))
      exact br_f h0 (br_t h3 Y)
    · have h0 : ¬ nI j < 0 := nI_pos (by omega)
      have h2 : ¬ 2 < nI j := nI_nlt (a := 2) (by omega) (by decide)
      refine br_f h0 (br_f (cp_n3 hj) ?_)
      by_cases p0 : v3 < 0
      · have Y : wpY_action (fun r' v' => r' = 0 ∧ i_Rel (k + 4) (g, a) v') (g, a, f) (nI s) (nI j) v3 := by
          unfold wpY_action
          exact cy_isT hs (br_f (by decide) (br_f h0 (br_f h2 (br_t p0 ⟨rfl, R⟩))))
        exact br_t p0 (br_t rfl Y)
      · by_cases p2 : 255 < v3
        · have Y : wpY_action (fun r' v' => r' = 0 ∧ i_Rel (k + 4) (g, a) v') (g, a, f) (nI s) (nI j) v3 := by
            unfold wpY_action
            exact cy_isT hs (br_f (by decide) (br_f h0 (br_f h2 (br_f p0 (br_f (Int32.not_le.mpr p2) ⟨rfl, R⟩)))))
          exact br_f p0 (br_t p2 (br_t rfl Y))
        · have p2' : v3 ≤ 255 := Int32.not_lt.mp p2
          have w3 : cp_w v3 := cp_lt255 p0 p2'
          have Y : wpY_action (fun r' v' => r' = 1 ∧ i_Rel (k + 4) (g, upd a (3 * s + j) v3) v') (g, a, f) (nI s) (nI j) v3 := by
            unfold wpY_action
            exact cy_isT hs (br_f (by decide) (br_f h0 (br_f h2 (br_f p0 (br_t p2' ⟨pk_in (3 * s + j) 24 (by omega) (cp_ixY s j), nm_r (e' := upd a (3 * s + j) v3) (by rw [pk_cl (3 * s + j) (cp_ixY s j)]) ⟨rfl, g, upd a (3 * s + j) v3, f, rfl, rfl, wg, cp_updw wa w3 _⟩⟩)))))
          exact br_f p0 (br_f p2 (br_f (by decide) ⟨pk_in (3 * s + j) 24 (by omega) (cp_ixX s j), nm_r (e' := upd a (3 * s + j) v3) (by rw [pk_cl (3 * s + j) (cp_ixX s j)]) Y⟩))
theorem i_vc_goals {k : Nat} {u : SX} {v : SY} (I : i_Rel k u v) (hk : k + 4 ≤ 2048) (v1 : Int32) : wpX_goals (fun r u' => wpY_goals (fun r' v' => r' = r ∧ i_Rel (k + 4) u' v') v v1) u v1 := by
  obtain ⟨g, a, f, rfl, rfl, wg, wa⟩ := I
  have R : i_Rel (k + 4) (g, a) (g, a, f) := ⟨g, a, f, rfl, rfl, wg, wa⟩
  unfold wpX_goals
  by_cases p0 : v1 < 0
  · have Y : wpY_goals (fun r' v' => r' = 0 ∧ i_Rel (k + 4) (g, a) v') (g, a, f) v1 := br_t p0 ⟨rfl, R⟩
    exact br_t p0 (br_t rfl Y)
  · by_cases p2 : 255 < v1
    · have Y : wpY_goals (fun r' v' => r' = 0 ∧ i_Rel (k + 4) (g, a) v') (g, a, f) v1 := br_f p0 (br_f (Int32.not_le.mpr p2) ⟨rfl, R⟩)
      exact br_f p0 (br_t p2 (br_t rfl Y))
    · have p2' : v1 ≤ 255 := Int32.not_lt.mp p2
      have w1 : cp_w v1 := cp_lt255 p0 p2'
      have Y : wpY_goals (fun r' v' => r' = 1 ∧ i_Rel (k + 4) (v1, a) v') (g, a, f) v1 := br_f p0 (br_t p2' ⟨rfl, v1, a, f, rfl, rfl, w1, wa⟩)
      exact br_f p0 (br_f p2 (br_f (by decide) Y))
theorem i_vc_weak {k : Nat} {u : SX} {v : SY} (I : i_Rel k u v) (hk : k + 4 ≤ 2048) : wpX_weak (fun r => wpY_weak (fun r' v' => r' = r ∧ i_Rel (k + 4) u v') v) u := by
  obtain ⟨g, a, f, rfl, rfl, wg, wa⟩ := I
  refine cx_weak g a (cy_weak g a f wg wa fun f' => ⟨?_, g, a, f', rfl, rfl, wg, wa⟩)
  exact (cp_weak a g 8).symm
theorem i_vc_safe {k : Nat} {u : SX} {v : SY} (I : i_Rel k u v) (hk : k + 4 ≤ 2048) : wpX_safe (fun r => wpY_safe (fun r' => r' = r ∧ i_Rel (k + 4) u v) v) u := by
  obtain ⟨g, a, f, rfl, rfl, wg, wa⟩ := I
  exact cx_safe g a (cy_safe g a f wg ⟨rfl, g, a, f, rfl, rfl, wg, wa⟩)
theorem i_vc_sure {k : Nat} {u : SX} {v : SY} (I : i_Rel k u v) (hk : k + 4 ≤ 2048) : wpX_sure (fun r => wpY_sure (fun r' v' => r' = r ∧ i_Rel (k + 4) u v') v) u := by
  obtain ⟨g, a, f, rfl, rfl, wg, wa⟩ := I
  exact cx_sure g a (cy_sure g a f wg wa fun f' => ⟨rfl, g, a, f', rfl, rfl, wg, wa⟩)
theorem i_vc_steps {k : Nat} {u : SX} {v : SY} (I : i_Rel k u v) (hk : k + 4 ≤ 2048) (v1 : Int32) : wpX_steps (fun r => wpY_steps (fun r' v' => r' = r ∧ i_Rel (k + 4) u v') v v1) u v1 := by
  obtain ⟨g, a, f, rfl, rfl, wg, wa⟩ := I
  rcases cp_case v1 with h | ⟨s, hs, rfl⟩
  · refine cx_stepsF g a h ?_
    unfold wpY_steps
    exact cy_numF g a f h ⟨rfl, g, a, f, rfl, rfl, wg, wa⟩
  · refine cx_steps g a hs fun r N => ?_
    unfold wpY_steps
    exact cy_num g a f wg wa true hs N fun f' d _ _ => ⟨rfl, g, a, f', rfl, rfl, wg, wa⟩
theorem i_vc_luck {k : Nat} {u : SX} {v : SY} (I : i_Rel k u v) (hk : k + 4 ≤ 2048) (v1 : Int32) : wpX_luck (fun r => wpY_luck (fun r' v' => r' = r ∧ i_Rel (k + 4) u v') v v1) u v1 := by
  obtain ⟨g, a, f, rfl, rfl, wg, wa⟩ := I
  rcases cp_case v1 with h | ⟨s, hs, rfl⟩
  · refine cx_luckF g a h ?_
    unfold wpY_luck
    exact cy_numF g a f h ⟨rfl, g, a, f, rfl, rfl, wg, wa⟩
  · refine cx_luck g a hs fun r N => ?_
    unfold wpY_luck
    exact cy_num g a f wg wa false hs N fun f' d _ _ => ⟨rfl, g, a, f', rfl, rfl, wg, wa⟩
theorem i_vc_safeActions {k : Nat} {u : SX} {v : SY} (I : i_Rel k u v) (hk : k + 4 ≤ 2048) (v1 : Int32) : wpX_safeActions (fun r => wpY_safeActions (fun r' => r' = r ∧ i_Rel (k + 4) u v) v v1) u v1 := by
  obtain ⟨g, a, f, rfl, rfl, wg, wa⟩ := I
  have R : i_Rel (k + 4) (g, a) (g, a, f) := ⟨g, a, f, rfl, rfl, wg, wa⟩
  unfold wpX_safeActions
  rcases cp_case v1 with h | ⟨s, hs, rfl⟩
  · have Y : wpY_safeActions (fun r' => r' = 0 ∧ i_Rel (k + 4) (g, a) (g, a, f)) (g, a, f) v1 := by
      unfold wpY_safeActions
      exact cy_safe g a f wg (cy_isF h (br_t rfl ⟨rfl, R⟩))
    exact cx_isF h (br_t rfl Y)
  · refine cx_isT hs (br_f (by decide) ?_)
    by_cases e : bt g s = true
    · have Y : wpY_safeActions (fun r' => r' = 0 ∧ i_Rel (k + 4) (g, a) (g, a, f)) (g, a, f) (nI s) := by
        unfold wpY_safeActions
        exact cy_safe g a f wg (cy_isT hs (br_f (by decide) (cy_inT (by omega) e (br_f (by decide) ⟨rfl, R⟩))))
      exact cx_hT (by omega) e (br_f (by decide) Y)
    · refine cx_hF (by omega) e (br_t rfl (cx_safe g a ?_))
      by_cases e' : bt (cp_K a g 8) s = true
      · have Y : wpY_safeActions (fun r' => r' = cp_af a s (cp_K a g 8) 3 ∧ i_Rel (k + 4) (g, a) (g, a, f)) (g, a, f) (nI s) := by
          unfold wpY_safeActions
          exact cy_safe g a f wg (cy_isT hs (br_f (by decide) (cy_inF (by omega) e (br_t rfl (cy_inT (by omega) e' (br_f (by decide) (cy_al g a f hs _ ⟨rfl, R⟩)))))))
        exact cx_hT (by omega) e' (br_f (by decide) (cx_ai g a hs _ Y))
      · have Y : wpY_safeActions (fun r' => r' = 0 ∧ i_Rel (k + 4) (g, a) (g, a, f)) (g, a, f) (nI s) := by
          unfold wpY_safeActions
          exact cy_safe g a f wg (cy_isT hs (br_f (by decide) (cy_inF (by omega) e (br_t rfl (cy_inF (by omega) e' (br_t rfl ⟨rfl, R⟩))))))
        exact cx_hF (by omega) e' (br_t rfl Y)
theorem i_vc_sureAction {k : Nat} {u : SX} {v : SY} (I : i_Rel k u v) (hk : k + 4 ≤ 2048) (v1 : Int32) : wpX_sureAction (fun r => wpY_sureAction (fun r' v' => r' = r ∧ i_Rel (k + 4) u v') v v1) u v1 := by
  obtain ⟨g, a, f, rfl, rfl, wg, wa⟩ := I
  have R : ∀ f', i_Rel (k + 4) (g, a) (g, a, f') := fun f' => ⟨g, a, f', rfl, rfl, wg, wa⟩
  rcases cp_case v1 with h | ⟨s, hs, rfl⟩
  · have Y : wpY_sureAction (fun r' v' => r' = -2 ∧ i_Rel (k + 4) (g, a) v') (g, a, f) v1 := by
      unfold wpY_sureAction
      exact cy_isF h (br_t rfl ⟨rfl, R f⟩)
    unfold wpX_sureAction
    exact cx_stepsF g a h (br_f (by decide) Y)
  · refine cx_sureAction g a hs ?_ ?_
    · intro c
      unfold wpY_sureAction
      refine cy_isT hs (br_f (by decide) ?_)
      by_cases e : bt g s = true
      · exact cy_inT (by omega) e (br_f (by decide) ⟨rfl, R f⟩)
      · refine cy_inF (by omega) e (br_t rfl ?_)
        unfold wpY_steps
        exact cy_num g a f wg wa true hs (Or.inr ⟨rfl, c.resolve_left e⟩) fun f' d _ _ => br_t rfl ⟨rfl, R f'⟩
    · intro m hm h1 h2 r hr
      unfold wpY_sureAction
      refine cy_isT hs (br_f (by decide) (cy_inF (by omega) (h2 0 (by omega)) (br_t rfl ?_)))
      unfold wpY_steps
      refine cy_num g a f wg wa true hs (Or.inl ⟨m + 1, by omega, rfl, h1, h2⟩) fun f' d D H => br_f (cp_nm2 (by omega)) ?_
      have l1 := (H (m + 1) (by omega) s hs).mpr h1
      have l2 : ¬ d s ≤ m := fun z => h2 m (by omega) ((H m (by omega) s hs).mp z)
      exact cy_sl g a f' wa D H hs (by omega) (by omega) fun r' hr' => ⟨cp_first_u hr hr', R f'⟩
theorem i_vc_prune {k : Nat} {u : SX} {v : SY} (I : i_Rel k u v) (hk : k + 4 ≤ 2048) : wpX_prune (fun r u' => wpY_prune (fun r' v' => r' = r ∧ i_Rel (k + 4) u' v') v) u := by
  obtain ⟨g, a, f, rfl, rfl, wg, wa⟩ := I
  unfold wpX_prune
  refine cx_safe g a (cx_pl g a _ ?_)
  unfold wpY_prune
  exact cy_safe g a f wg (cy_pl g a f _ ⟨rfl, g, _, f, rfl, rfl, wg, cp_pa_w wa _ 24⟩)
theorem i_vc_hopeful {k : Nat} {u : SX} {v : SY} (I : i_Rel k u v) (hk : k + 4 ≤ 2048) : wpX_hopeful (fun r => wpY_hopeful (fun r' v' => r' = r ∧ i_Rel (k + 4) u v') v) u := by
  obtain ⟨g, a, f, rfl, rfl, wg, wa⟩ := I
  unfold wpX_hopeful
  refine cx_safe g a (cx_sure g a (nm_e (cx_hl g a _ _ ?_)))
  unfold wpY_hopeful
  exact cy_safe g a f wg (cy_sure g a f wg wa fun f' => cy_hl g a f' _ _ ⟨rfl, g, a, f', rfl, rfl, wg, wa⟩)
