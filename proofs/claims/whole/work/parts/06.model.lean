/-! the reference's walks, each with a general post -/
def cp_D (f : Nat → Int32) (d : Nat → Nat) : Prop := ∀ s, s < 8 → f s = nI (d s) ∧ d s ≤ 99
def cp_xb (b : Bool) : Int32 := cond b 1 0
theorem cp_D_up {f : Nat → Int32} {d : Nat → Nat} (D : cp_D f d) (s : Nat) {v : Nat} (hv : v ≤ 99) : cp_D (upd f s (nI v)) (cp_up d s v) := by
  intro t ht
  by_cases e : t = s
  · rw [e, pk_us, cp_up_s]
    exact ⟨rfl, hv⟩
  · rw [pk_un e, cp_up_n d v e]
    exact D t ht
theorem cy_isT {post : Int32 → Prop} {g : Int32} {a f : Nat → Int32} {s : Nat} (hs : s < 8) (k : post 1) : wpY_isState post (g, a, f) (nI s) :=
  br_f (nI_pos (by omega)) (br_f (nI_nlt (a := 7) (by omega) (by decide)) k)
theorem cy_isF {post : Int32 → Prop} {g : Int32} {a f : Nat → Int32} {x : Int32} (h : x < 0 ∨ 8 ≤ x) (k : post 0) : wpY_isState post (g, a, f) x := by
  by_cases h0 : x < 0
  · exact br_t h0 k
  · exact br_f h0 (br_t (cp_78 (h.resolve_left h0)) k)
theorem cy_inT {post : Int32 → Prop} {g : Int32} {a f : Nat → Int32} {x : Int32} {s : Nat} (hs : s < 32) (e : bt x s = true) (k : post 1) : wpY_in post (g, a, f) x (nI s) := br_t ((cp_bit1 x hs).mpr e) k
theorem cy_inF {post : Int32 → Prop} {g : Int32} {a f : Nat → Int32} {x : Int32} {s : Nat} (hs : s < 32) (e : ¬ bt x s = true) (k : post 0) : wpY_in post (g, a, f) x (nI s) := br_f (fun z => e ((cp_bit1 x hs).mp z)) k
theorem cy_out {post : Int32 → Prop} (g : Int32) (a f : Nat → Int32) {d : Nat → Nat} (D : cp_D f d) {o : Int32} (w : cp_w o) (b : Bool) (k : ∀ r, cp_out b o d r → post r) : wpY_outcome post (g, a, f) o (cp_xb b) := by
  refine loop_0 (fun n i s => wY_outcome_9 post o (cp_xb b) g a f n s.1 s.2 (nI i)) (fun i s => cp_mo o d i s.1 ∧ cp_le o d i s.2) 8 (-1, 99) ⟨Or.inl ⟨rfl, fun s hs => absurd hs (by omega)⟩, ⟨99, Nat.le_refl 99, rfl, fun s hs => absurd hs (by omega), Or.inl rfl⟩⟩ ?_ ?_
  · intro n s h
    obtain ⟨mo, le⟩ := s
    obtain ⟨hm, hl⟩ := h
    refine br_t cp_y8 ?_
    cases b with
    | false => exact br_t rfl (k _ (cp_out_le w hl))
    | true =>
      refine br_f (by decide) ?_
      by_cases c : mo < 0
      · exact br_t c (k _ (cp_out_em w c hm hl))
      · exact br_f c (k _ (cp_out_mo w c hm))
  · intro n i s hi h ih
    obtain ⟨mo, le⟩ := s
    obtain ⟨hm, hl⟩ := h
    obtain ⟨e, h99⟩ := D i hi
    have ef : f (nI i).toNatClampNeg = nI (d i) := by
      rw [nI_clamp (by omega)]
      exact e
    refine br_f (cp_n8 hi) ?_
    by_cases c : bt o i = true
    · refine cy_inT (by omega) c (br_f (by decide) ⟨vp_in_nI hi (by decide), ?_⟩)
      have J : ∀ mo', cp_mo o d (i + 1) mo' → wY_outcome_45 post (wY_outcome_9 post o (cp_xb b) g a f n) o (cp_xb b) mo' le (nI i) g a f := by
        intro mo' hm'
        refine ⟨vp_in_nI hi (by decide), ?_⟩
        by_cases c2 : le ≤ nI (d i)
        · exact br_t (by rw [ef]; exact c2) (nm_r (nI_1 i) (ih (mo', le) ⟨hm', cp_le_st h99 c2 hl⟩))
        · exact br_f (by rw [ef]; exact c2) ⟨vp_in_nI hi (by decide), nm_r ef (nm_r (nI_1 i) (ih (mo', nI (d i)) ⟨hm', cp_le_dn c h99 c2 hl⟩))⟩
      by_cases c1 : nI (d i) ≤ mo
      · exact br_t (by rw [ef]; exact c1) (J mo (cp_mo_st h99 c1 hm))
      · exact br_f (by rw [ef]; exact c1) ⟨vp_in_nI hi (by decide), nm_r ef (J _ (cp_mo_up c h99 c1 hm))⟩
    · exact cy_inF (by omega) c (br_t rfl (nm_r (nI_1 i) (ih (mo, le) ⟨cp_mo_n c hm, cp_le_n c hl⟩)))
theorem cy_c48 {post : SY → Prop} {J : Int32 → (Nat → Int32) → (Nat → Int32) → Prop} (g : Int32) (a : Nat → Int32) (wa : ∀ i, cp_w (a i)) (b : Bool) {r : Nat} (hr : r < 8)
    (kJ : ∀ f d, cp_D f d → cp_Snd a g b d → cp_Cmp a g b (r + 1) 0 d → J (nI (r + 1)) a f) (f : Nat → Int32) (d : Nat → Nat) (D : cp_D f d) (S : cp_Snd a g b d) (C : cp_Cmp a g b r 0 d) :
    ∃ n, wY_count_48 post J (cp_xb b) (nI r) g n 0 a f := by
  refine loop_0 (fun n i s => wY_count_48 post J (cp_xb b) (nI r) g n (nI i) a s) (fun i s => ∃ d, cp_D s d ∧ cp_Snd a g b d ∧ cp_Cmp a g b r i d) 24 f ⟨d, D, S, C⟩ ?_ ?_
  · rintro n s ⟨d, D, S, C⟩
    exact br_t cp_y24 (nm_r (nI_1 r) (kJ s d D S (cp_crd C)))
  · rintro n i s hi ⟨d, D, S, C⟩ ih
    have ei : a (nI i).toNatClampNeg = a i := by rw [nI_clamp (by omega)]
    have h3 : i / 3 < 8 := by omega
    have e3 : (nI i / 3).toNatClampNeg = i / 3 := by rw [cp_div3 hi, nI_clamp (by omega)]
    have es : s (nI i / 3).toNatClampNeg = nI (d (i / 3)) := by
      rw [e3]
      exact (D _ h3).1
    have v3 : vp_in (nI i / 3) 8 := by
      rw [cp_div3 hi]
      exact vp_in_nI h3 (by decide)
    have d99 := (D _ h3).2
    refine br_f (cp_n24 hi) ⟨vp_in_nI hi (by decide), ?_⟩
    rw [ei]
    refine cy_out g a s D (wa i) b ?_
    rintro x ⟨m, hm, ex, hQ⟩
    subst ex
    refine ⟨cp_3n, v3, ?_⟩
    by_cases c : m + 1 < d (i / 3)
    · have c' : ¬ s (nI i / 3).toNatClampNeg ≤ nI m + 1 := by
        rw [es, nI_1]
        exact nI_ge c (by omega)
      obtain ⟨S', C'⟩ := cp_cup (wa i) hi hr hQ S C c
      exact br_f c' ⟨cp_3n, v3, nm_r (e' := upd s (i / 3) (nI (m + 1))) (by rw [e3, nI_1]) (nm_r (nI_1 i) (ih _ ⟨_, cp_D_up D (i / 3) (by omega), S', C'⟩))⟩
    · have c' : s (nI i / 3).toNatClampNeg ≤ nI m + 1 := by
        rw [es, nI_1]
        exact nI_le (by omega) (by omega)
      exact br_t c' (nm_r (nI_1 i) (ih s ⟨d, D, S, cp_cst (wa i) hr hQ C c⟩))
theorem cy_c40 {post : SY → Prop} (g : Int32) (a : Nat → Int32) (wg : cp_w g) (wa : ∀ i, cp_w (a i)) (b : Bool) (k : ∀ f d, cp_D f d → cp_far a g b d → post (g, a, f))
    (f : Nat → Int32) (d : Nat → Nat) (D : cp_D f d) (S : cp_Snd a g b d) (C : cp_Cmp a g b 0 0 d) : ∃ n, wY_count_40 post (cp_xb b) g n 0 a f := by
  refine loop_0 (fun n i s => wY_count_40 post (cp_xb b) g n (nI i) a s) (fun i s => ∃ d, cp_D s d ∧ cp_Snd a g b d ∧ cp_Cmp a g b i 0 d) 8 f ⟨d, D, S, C⟩ ?_ ?_
  · rintro n s ⟨d, D, S, C⟩
    exact br_t cp_y8 (k s d D (cp_fin wg S C))
  · rintro n i s hi ⟨d, D, S, C⟩ ih
    exact br_f (cp_n8 hi) (cy_c48 g a wa b hi (fun f d D S C => ih f ⟨d, D, S, C⟩) s d D S C)
theorem cy_cnt {post : SY → Prop} (g : Int32) (a f : Nat → Int32) (wg : cp_w g) (wa : ∀ i, cp_w (a i)) (b : Bool) (k : ∀ f d, cp_D f d → cp_far a g b d → post (g, a, f)) : wpY_count post (g, a, f) (cp_xb b) := by
  refine loop_0 (fun n i s => wY_count_2 post (cp_xb b) g n (nI i) a s) (fun i s => ∀ t, t < i → s t = nI (if bt g t = true then 0 else 99)) 8 f (fun t ht => absurd ht (by omega)) ?_ ?_
  · intro n s (hs : ∀ t, t < 8 → s t = nI (if bt g t = true then 0 else 99))
    have D : cp_D s (fun t => if bt g t = true then 0 else 99) := fun t ht => ⟨hs t ht, by
      show (if bt g t = true then 0 else 99) ≤ 99
      by_cases e : bt g t = true
      · rw [if_pos e]; omega
      · rw [if_neg e]; omega⟩
    obtain ⟨S, C⟩ := cp_c0 a g b (d := fun t => if bt g t = true then 0 else 99) (fun t ht => rfl)
    exact br_t cp_y8 (cy_c40 g a wg wa b k s _ D S C)
  · intro n i s hi (hs : ∀ t, t < i → s t = nI (if bt g t = true then 0 else 99)) ih
    refine br_f (cp_n8 hi) ?_
    by_cases e : bt g i = true
    · refine cy_inT (by omega) e (br_f (by decide) ⟨vp_in_nI hi (by decide), nm_r (e' := upd s i 0) (by rw [nI_clamp (by omega)]) (nm_r (nI_1 i) (ih _ ?_))⟩)
      intro t ht
      by_cases z : t = i
      · rw [z, pk_us, if_pos e]; rfl
      · rw [pk_un z]
        exact hs t (by omega)
    · refine cy_inF (by omega) e (br_t rfl ⟨vp_in_nI hi (by decide), nm_r (e' := upd s i 99) (by rw [nI_clamp (by omega)]) (nm_r (nI_1 i) (ih _ ?_))⟩)
      intro t ht
      by_cases z : t = i
      · rw [z, pk_us, if_neg e]; rfl
      · rw [pk_un z]
        exact hs t (by omega)
theorem cy_rch {post : Int32 → Prop} (g : Int32) (a f : Nat → Int32) {d : Nat → Nat} (D : cp_D f d) (k : ∀ x, (∀ i, bt x i = true ↔ i < 8 ∧ d i < 99) → post x) : wpY_reached post (g, a, f) := by
  refine loop_0 (fun n i s => wY_reached_4 post g a f n s (nI i)) (fun i s => ∀ t, bt s t = true ↔ t < i ∧ d t < 99) 8 0 (fun t => ⟨fun h => (cp_tf h (b_0 t)).elim, fun h => absurd h.1 (by omega)⟩) ?_ ?_
  · intro n s (hs : ∀ t, bt s t = true ↔ t < 8 ∧ d t < 99)
    exact br_t cp_y8 (k s hs)
  · intro n i s hi (hs : ∀ t, bt s t = true ↔ t < i ∧ d t < 99) ih
    obtain ⟨e, h99⟩ := D i hi
    have ef : f (nI i).toNatClampNeg = nI (d i) := by
      rw [nI_clamp (by omega)]
      exact e
    refine br_f (cp_n8 hi) ⟨vp_in_nI hi (by decide), ?_⟩
    by_cases c : d i < 99
    · refine br_f (by rw [ef]; exact nI_ge (b := 99) c (by decide)) (nm_e (nm_r (nI_1 i) (ih _ ?_)))
      intro t
      rw [cp_orT, cp_one (by omega), hs]
      constructor
      · rintro (⟨h1, h2⟩ | h)
        · exact ⟨by omega, h2⟩
        · rw [h]
          exact ⟨by omega, c⟩
      · rintro ⟨h1, h2⟩
        by_cases z : t = i
        · exact Or.inr z
        · exact Or.inl ⟨by omega, h2⟩
    · refine br_t (by rw [ef]; exact nI_le (a := 99) (by omega) (by omega)) (nm_r (nI_1 i) (ih s ?_))
      intro t
      rw [hs]
      constructor
      · rintro ⟨h1, h2⟩
        exact ⟨by omega, h2⟩
      · rintro ⟨h1, h2⟩
        by_cases z : t = i
        · rw [z] at h2
          exact absurd h2 c
        · exact ⟨by omega, h2⟩
theorem cy_weak {post : Int32 → SY → Prop} (g : Int32) (a f : Nat → Int32) (wg : cp_w g) (wa : ∀ i, cp_w (a i)) (k : ∀ f', post (cp_L a g false 8) (g, a, f')) : wpY_weak post (g, a, f) := by
  unfold wpY_weak
  refine cy_cnt g a f wg wa false fun f' d D H => ?_
  refine cy_rch g a f' D fun x hx => ?_
  rw [cp_rch wg H hx]
  exact k f'
theorem cy_sure {post : Int32 → SY → Prop} (g : Int32) (a f : Nat → Int32) (wg : cp_w g) (wa : ∀ i, cp_w (a i)) (k : ∀ f', post (cp_L a g true 8) (g, a, f')) : wpY_sure post (g, a, f) := by
  unfold wpY_sure
  refine cy_cnt g a f wg wa true fun f' d D H => ?_
  refine cy_rch g a f' D fun x hx => ?_
  rw [cp_rch wg H hx]
  exact k f'
theorem cy_k16 {post : Int32 → Prop} {J : Int32 → Int32 → Prop} (g : Int32) (a f : Nat → Int32) (wg : cp_w g) (S : Int32) {r : Nat} (hr : r < 8)
    (kJ : ∀ x, cp_sub x (cp_F a g S) → cp_Lo a g S (r + 1) 0 x → J x (nI (r + 1))) (x : Int32) (U : cp_sub x (cp_F a g S)) (L : cp_Lo a g S r 0 x) : ∃ n, wY_keeps_16 post J S (nI r) g a f n x 0 := by
  refine loop_0 (fun n i s => wY_keeps_16 post J S (nI r) g a f n s (nI i)) (fun i s => cp_sub s (cp_F a g S) ∧ cp_Lo a g S r i s) 24 x ⟨U, L⟩ ?_ ?_
  · rintro n s ⟨U, L⟩
    exact br_t cp_y24 (nm_r (nI_1 r) (kJ s U (cp_krd L)))
  · rintro n i s hi ⟨U, L⟩ ih
    have ei : a (nI i).toNatClampNeg = a i := by rw [nI_clamp (by omega)]
    have stay : ¬ (bt S (i / 3) = true ∧ cp_ok S s (a i)) → cp_sub s (cp_F a g S) ∧ cp_Lo a g S r (i + 1) s := fun hn =>
      cp_kstep wg hi hr U L (fun t => ⟨fun h => Or.inl h, fun h => h.elim id (fun z => absurd z.2 hn)⟩)
    refine br_f (cp_n24 hi) ⟨cp_3n, ?_⟩
    rw [cp_div3 hi]
    by_cases c0 : bt S (i / 3) = true
    · refine cy_inT (by omega) c0 (br_f (by decide) ⟨vp_in_nI hi (by decide), ?_⟩)
      by_cases c1 : (a i &&& (S ^^^ (-1))) = 0
      · refine br_t (by rw [ei]; exact c1) ⟨vp_in_nI hi (by decide), ?_⟩
        by_cases c2 : (a i &&& s) = 0
        · exact br_t (by rw [ei]; exact c2) (nm_r (nI_1 i) (ih s (stay fun z => (cp_mtI _ _).mpr z.2.2 c2)))
        · refine br_f (by rw [ei]; exact c2) ⟨cp_3n, nm_e (nm_r (nI_1 i) (ih _ ?_))⟩
          have o : cp_ok S s (a i) := ⟨(cp_subI _ _).mp c1, (cp_mtI _ _).mp c2⟩
          refine cp_kstep wg hi hr U L (fun t => ?_)
          rw [cp_orT, cp_one (by omega)]
          constructor
          · rintro (h | h)
            · exact Or.inl h
            · exact Or.inr ⟨h, c0, o⟩
          · rintro (h | ⟨h, _⟩)
            · exact Or.inl h
            · exact Or.inr h
      · exact br_f (by rw [ei]; exact c1) (nm_r (nI_1 i) (ih s (stay fun z => c1 ((cp_subI _ _).mpr z.2.1))))
    · exact cy_inF (by omega) c0 (br_t rfl (nm_r (nI_1 i) (ih s (stay fun z => c0 z.1))))
theorem cy_keeps {post : Int32 → Prop} (g : Int32) (a f : Nat → Int32) (wg : cp_w g) (S : Int32) (k1 : cp_sub S (cp_F a g S) → post 1) (k0 : ¬ cp_F a g S = S → post 0) : wpY_keeps post (g, a, f) S := by
  refine loop_0 (fun n i s => wY_keeps_7 post S g a f n s (nI i)) (fun i s => cp_sub s (cp_F a g S) ∧ cp_Lo a g S i 0 s) 8 g (cp_k0 a g S) ?_ ?_
  · rintro n s ⟨U, L⟩
    obtain ⟨h1, h2⟩ := cp_kfin U L
    refine br_t cp_y8 ?_
    by_cases c : (S &&& (s ^^^ (-1))) = 0
    · exact br_t c (k1 (h1 ((cp_subI _ _).mp c)))
    · exact br_f c (k0 fun e => c ((cp_subI _ _).mpr (h2 e)))
  · rintro n i s hi ⟨U, L⟩ ih
    exact br_f (cp_n8 hi) (cy_k16 g a f wg S hi (fun x U L => ih x ⟨U, L⟩) s U L)
theorem cy_safe {post : Int32 → Prop} (g : Int32) (a f : Nat → Int32) (wg : cp_w g) (k : post (cp_K a g 8)) : wpY_safe post (g, a, f) := by
  refine loop_0 (fun n i s => wY_safe_7 post g a f n s (nI i)) (fun i s => cp_un a g i s) 256 g (cp_un0 a wg) ?_ ?_
  · intro n s (U : cp_un a g 256 s)
    have e := cp_unE wg U
    subst e
    exact br_t cp_y256 k
  · intro n i s hi (U : cp_un a g i s) ih
    refine br_f (cp_n256 hi) ?_
    by_cases c : (g &&& (nI i ^^^ (-1))) = 0
    · exact br_t c (cy_keeps g a f wg (nI i) (fun h => br_f (by decide) (nm_e (nm_r (nI_1 i) (ih _ (cp_un_t hi U h))))) (fun h => br_t rfl (nm_r (nI_1 i) (ih s (cp_un_f wg U (fun z => h z.2))))))
    · exact br_f c (nm_r (nI_1 i) (ih s (cp_un_f wg U (fun z => c ((cp_subI _ _).mpr z.1)))))
theorem cy_num {post : Int32 → SY → Prop} (g : Int32) (a f : Nat → Int32) (wg : cp_w g) (wa : ∀ i, cp_w (a i)) (b : Bool) {s : Nat} (hs : s < 8) {r : Int32} (N : cp_num a g b s r)
    (k : ∀ f' d, cp_D f' d → cp_far a g b d → post r (g, a, f')) : wpY_number post (g, a, f) (nI s) (cp_xb b) := by
  unfold wpY_number
  refine cy_isT hs (br_f (by decide) (cy_cnt g a f wg wa b fun f' d D H => ?_))
  have ef : f' (nI s).toNatClampNeg = nI (d s) := by
    rw [nI_clamp (by omega)]
    exact (D s hs).1
  have d99 := (D s hs).2
  have p := k f' d D H
  obtain ⟨n1, n2⟩ := cp_num_d wg H hs N
  refine ⟨vp_in_nI hs (by decide), ?_⟩
  by_cases c : d s < 99
  · refine br_f (by rw [ef]; exact nI_ge (b := 99) c (by decide)) ⟨vp_in_nI hs (by decide), ?_⟩
    rw [ef, n1 c]
    exact p
  · refine br_t (by rw [ef]; exact nI_le (a := 99) (by omega) (by omega)) ?_
    rw [n2 c] at p
    exact p
theorem cy_numF {post : Int32 → SY → Prop} (g : Int32) (a f : Nat → Int32) {x y : Int32} (h : x < 0 ∨ 8 ≤ x) (k : post (-1) (g, a, f)) : wpY_number post (g, a, f) x y := by
  unfold wpY_number
  exact cy_isF h (br_t rfl k)
theorem cy_al {post : Int32 → Prop} (g : Int32) (a f : Nat → Int32) {s : Nat} (hs : s < 8) (S : Int32) (k : post (cp_af a s S 3)) : ∃ n, wY_safeActions_41 post (nI s) S g a f n 0 0 := by
  refine loop_0 (fun n i x => wY_safeActions_41 post (nI s) S g a f n x (nI i)) (fun i x => x = cp_af a s S i) 3 0 rfl ?_ ?_
  · intro n x (hx : x = cp_af a s S 3)
    subst hx
    exact br_t cp_y3 k
  · intro n i x hi (hx : x = cp_af a s S i) ih
    subst hx
    have v : vp_in (3 * nI s + nI i) 24 := pk_in (3 * s + i) 24 (by omega) (cp_ixY s i)
    have ei : a (3 * nI s + nI i).toNatClampNeg = a (3 * s + i) := by rw [pk_cl (3 * s + i) (cp_ixY s i)]
    refine br_f (cp_n3 hi) ⟨v, ?_⟩
    by_cases c0 : a (3 * s + i) = 0
    · exact br_t (by rw [ei]; exact c0) (nm_r (nI_1 i) (ih _ (cp_af_f1 c0)))
    · refine br_f (by rw [ei]; exact c0) ⟨v, ?_⟩
      by_cases c : (a (3 * s + i) &&& (S ^^^ (-1))) = 0
      · exact br_t (by rw [ei]; exact c) (nm_e (nm_r (nI_1 i) (ih _ (cp_af_t c0 c))))
      · exact br_f (by rw [ei]; exact c) (nm_r (nI_1 i) (ih _ (cp_af_f2 c)))
theorem cy_sl {post : Int32 → SY → Prop} (g : Int32) (a f : Nat → Int32) (wa : ∀ i, cp_w (a i)) {d : Nat → Nat} (D : cp_D f d) (H : cp_far a g true d) {s m : Nat} (hs : s < 8) (hm : d s = m + 1) (hm9 : m < 98)
    (k : ∀ r, cp_first (fun i => bt (cp_af a s (cp_L a g true m) 3) i = true) r → post r (g, a, f)) : ∃ n, wY_sureAction_35 post (nI s) g a f n 0 := by
  refine loop_0 (fun n i (_ : Unit) => wY_sureAction_35 post (nI s) g a f n (nI i)) (fun i _ => ∀ j, j < i → ¬ bt (cp_af a s (cp_L a g true m) 3) j = true) 3 () (fun j hj => absurd hj (by omega)) ?_ ?_
  · intro n _ (h : ∀ j, j < 3 → ¬ bt (cp_af a s (cp_L a g true m) 3) j = true)
    exact br_t cp_y3 (k _ (Or.inr ⟨rfl, h⟩))
  · intro n i _ hi (h : ∀ j, j < i → ¬ bt (cp_af a s (cp_L a g true m) 3) j = true) ih
    have v : vp_in (3 * nI s + nI i) 24 := pk_in (3 * s + i) 24 (by omega) (cp_ixY s i)
    have ei : a (3 * nI s + nI i).toNatClampNeg = a (3 * s + i) := by rw [pk_cl (3 * s + i) (cp_ixY s i)]
    have ef : f (nI s).toNatClampNeg = nI (d s) := by
      rw [nI_clamp (by omega)]
      exact (D s hs).1
    have d99 := (D s hs).2
    refine br_f (cp_n3 hi) ⟨v, ?_⟩
    rw [ei]
    refine cy_out g a f D (wa _) true ?_
    rintro x ⟨q, hq, ex, hQ⟩
    subst ex
    have fit := cp_fit H hs hm hm9 (q := 3 * s + i) (by omega) (by omega) (wa _) hQ
    have bits := cp_af_bt a s (cp_L a g true m) i 3 (by omega)
    refine ⟨vp_in_nI hs (by decide), ?_⟩
    by_cases e : q + 1 = d s
    · refine br_t ?_ (k _ (Or.inl ⟨i, hi, rfl, bits.mpr ⟨hi, fit.mp e⟩, h⟩))
      rw [ef, nI_1, e]
    · refine br_f ?_ (nm_r (nI_1 i) (ih () fun j hj => ?_))
      · rw [ef, nI_1, nI_eq (by omega) (by omega)]
        exact e
      · by_cases z : j = i
        · rw [z]
          exact fun t => e (fit.mpr (bits.mp t).2)
        · exact h j (by omega)
theorem cy_pl {post : Int32 → SY → Prop} (g : Int32) (a f : Nat → Int32) (S : Int32) (k : post (nI (cp_pc a S 24)) (g, cp_pa a S 24, f)) : ∃ n, wY_prune_9 post S g n 0 0 a f := by
  refine loop_0 (fun n i s => wY_prune_9 post S g n s.1 (nI i) s.2 f) (fun i s => s = (nI (cp_pc a S i), cp_pa a S i)) 24 (0, a) rfl ?_ ?_
  · intro n s (hs : s = (nI (cp_pc a S 24), cp_pa a S 24))
    subst hs
    exact br_t cp_y24 k
  · intro n i s hi (hs : s = (nI (cp_pc a S i), cp_pa a S i)) ih
    subst hs
    have ha : cp_pa a S i (nI i).toNatClampNeg = a i := by
      rw [nI_clamp (by omega)]
      exact cp_pa_ge a S i i (Nat.le_refl i)
    refine br_f (cp_n24 hi) ⟨vp_in_nI hi (by decide), ?_⟩
    by_cases c : (a i &&& (S ^^^ (-1))) = 0
    · refine br_t (by dsimp only; rw [ha]; exact c) (nm_r (nI_1 i) (ih (nI (cp_pc a S i), cp_pa a S i) ?_))
      show (nI (cp_pc a S i), cp_pa a S i) = (nI (cp_pc a S (i + 1)), cp_pa a S (i + 1))
      rw [cp_pc_s, cp_pa_s, if_pos c, if_pos c]
    · refine br_f (by dsimp only; rw [ha]; exact c) ⟨vp_in_nI hi (by decide), nm_r (e' := upd (cp_pa a S i) i 0) (by rw [nI_clamp (by omega)]) (nm_r (nI_1 _) (nm_r (nI_1 i) (ih (nI (cp_pc a S i + 1), upd (cp_pa a S i) i 0) ?_)))⟩
      show (nI (cp_pc a S i + 1), upd (cp_pa a S i) i 0) = (nI (cp_pc a S (i + 1)), cp_pa a S (i + 1))
      rw [cp_pc_s, cp_pa_s, if_neg c, if_neg c]
theorem cy_hl {post : Int32 → SY → Prop} (g : Int32) (a f : Nat → Int32) (x y : Int32) (k : post (nI (cp_hc x y 8)) (g, a, f)) : ∃ n, wY_hopeful_15 post x y g a f n 0 0 := by
  refine loop_0 (fun n i s => wY_hopeful_15 post x y g a f n s (nI i)) (fun i s => s = nI (cp_hc x y i)) 8 0 rfl ?_ ?_
  · intro n s (hs : s = nI (cp_hc x y 8))
    subst hs
    exact br_t cp_y8 k
  · intro n i s hi (hs : s = nI (cp_hc x y i)) ih
    subst hs
    refine br_f (cp_n8 hi) ?_
    by_cases e : bt x i = true
    · refine cy_inT (by omega) e (br_f (by decide) ?_)
      by_cases e' : bt y i = true
      · exact cy_inT (by omega) e' (br_f (by decide) (nm_r (nI_1 i) (ih _ (cp_hc_f (fun z => z.2 e')))))
      · exact cy_inF (by omega) e' (br_t rfl (nm_r (cp_hc_t e e') (nm_r (nI_1 i) (ih _ rfl))))
    · exact cy_inF (by omega) e (br_t rfl (nm_r (nI_1 i) (ih _ (cp_hc_f (fun z => e z.1)))))
