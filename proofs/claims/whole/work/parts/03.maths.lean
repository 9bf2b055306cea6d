/-! the reference's outcome -/
def cp_Q (b : Bool) (o : Int32) (P : Nat → Prop) : Prop := (∃ i, bt o i = true ∧ P i) ∧ (b = true → ∀ i, bt o i = true → P i)
theorem cp_Q_mono {b : Bool} {o : Int32} {P P' : Nat → Prop} (h : ∀ i, bt o i = true → P i → P' i) (q : cp_Q b o P) : cp_Q b o P' := by
  obtain ⟨⟨i, hi, pi⟩, q2⟩ := q
  exact ⟨⟨i, hi, h i hi pi⟩, fun e i hi => h i hi (q2 e i hi)⟩
theorem cp_QI {b : Bool} {o x : Int32} (w : cp_w o) : cp_Q b o (fun i => bt x i = true) ↔ cp_ok (cp_al b x) x o := by
  cases b
  · constructor
    · rintro ⟨h, _⟩
      exact ⟨cp_sub255 w, h⟩
    · rintro ⟨_, h⟩
      exact ⟨h, fun e => Bool.noConfusion e⟩
  · constructor
    · rintro ⟨h, h2⟩
      exact ⟨h2 rfl, h⟩
    · rintro ⟨h2, h⟩
      exact ⟨h, fun _ => h2⟩
def cp_mo (o : Int32) (d : Nat → Nat) (i : Nat) (mo : Int32) : Prop :=
  (mo = -1 ∧ ∀ s, s < i → ¬ bt o s = true) ∨ ∃ m, m ≤ 99 ∧ mo = nI m ∧ (∃ s, s < i ∧ bt o s = true ∧ d s = m) ∧ ∀ s, s < i → bt o s = true → d s ≤ m
def cp_le (o : Int32) (d : Nat → Nat) (i : Nat) (le : Int32) : Prop :=
  ∃ l, l ≤ 99 ∧ le = nI l ∧ (∀ s, s < i → bt o s = true → l ≤ d s) ∧ (l = 99 ∨ ∃ s, s < i ∧ bt o s = true ∧ d s = l)
theorem cp_nm1 {m : Nat} (h : m < 2 ^ 31) : ¬ nI m ≤ -1 := by
  rw [Int32.le_iff_toInt_le, nI_toInt h]
  have e : (-1 : Int32).toInt = -1 := by decide
  rw [e]
  omega
theorem cp_mo_n {o : Int32} {d : Nat → Nat} {i : Nat} {mo : Int32} (h : ¬ bt o i = true) (H : cp_mo o d i mo) : cp_mo o d (i + 1) mo := by
  rcases H with ⟨e, H⟩ | ⟨m, hm, e, ⟨s, hs, b1, b2⟩, H⟩
  · refine Or.inl ⟨e, fun s hs => ?_⟩
    by_cases z : s = i
    · rw [z]; exact h
    · exact H s (by omega)
  · refine Or.inr ⟨m, hm, e, ⟨s, by omega, b1, b2⟩, fun t ht bt' => ?_⟩
    by_cases z : t = i
    · rw [z] at bt'
      exact absurd bt' h
    · exact H t (by omega) bt'
theorem cp_mo_up {o : Int32} {d : Nat → Nat} {i : Nat} {mo : Int32} (h : bt o i = true) (hd : d i ≤ 99) (c : ¬ nI (d i) ≤ mo) (H : cp_mo o d i mo) : cp_mo o d (i + 1) (nI (d i)) := by
  refine Or.inr ⟨d i, hd, rfl, ⟨i, by omega, h, rfl⟩, fun t ht bt' => ?_⟩
  by_cases z : t = i
  · rw [z]; exact Nat.le_refl _
  · rcases H with ⟨e, H⟩ | ⟨m, hm, e, _, H⟩
    · exact absurd bt' (H t (by omega))
    · have := H t (by omega) bt'
      rw [e, nI_leI (by omega) (by omega)] at c
      omega
theorem cp_mo_st {o : Int32} {d : Nat → Nat} {i : Nat} {mo : Int32} (hd : d i ≤ 99) (c : nI (d i) ≤ mo) (H : cp_mo o d i mo) : cp_mo o d (i + 1) mo := by
  rcases H with ⟨e, H⟩ | ⟨m, hm, e, ⟨s, hs, b1, b2⟩, H⟩
  · rw [e] at c
    exact absurd c (cp_nm1 (by omega))
  · refine Or.inr ⟨m, hm, e, ⟨s, by omega, b1, b2⟩, fun t ht bt' => ?_⟩
    by_cases z : t = i
    · rw [e, nI_leI (by omega) (by omega)] at c
      rw [z]; exact c
    · exact H t (by omega) bt'
theorem cp_le_n {o : Int32} {d : Nat → Nat} {i : Nat} {le : Int32} (h : ¬ bt o i = true) (H : cp_le o d i le) : cp_le o d (i + 1) le := by
  obtain ⟨l, hl, e, H1, H2⟩ := H
  refine ⟨l, hl, e, fun t ht bt' => ?_, H2.elim Or.inl (fun ⟨s, hs, b1, b2⟩ => Or.inr ⟨s, by omega, b1, b2⟩)⟩
  by_cases z : t = i
  · rw [z] at bt'
    exact absurd bt' h
  · exact H1 t (by omega) bt'
theorem cp_le_dn {o : Int32} {d : Nat → Nat} {i : Nat} {le : Int32} (h : bt o i = true) (hd : d i ≤ 99) (c : ¬ le ≤ nI (d i)) (H : cp_le o d i le) : cp_le o d (i + 1) (nI (d i)) := by
  obtain ⟨l, hl, e, H1, H2⟩ := H
  rw [e, nI_leI (by omega) (by omega)] at c
  refine ⟨d i, hd, rfl, fun t ht bt' => ?_, Or.inr ⟨i, by omega, h, rfl⟩⟩
  by_cases z : t = i
  · rw [z]; exact Nat.le_refl _
  · have := H1 t (by omega) bt'
    omega
theorem cp_le_st {o : Int32} {d : Nat → Nat} {i : Nat} {le : Int32} (hd : d i ≤ 99) (c : le ≤ nI (d i)) (H : cp_le o d i le) : cp_le o d (i + 1) le := by
  obtain ⟨l, hl, e, H1, H2⟩ := H
  rw [e, nI_leI (by omega) (by omega)] at c
  refine ⟨l, hl, e, fun t ht bt' => ?_, H2.elim Or.inl (fun ⟨s, hs, b1, b2⟩ => Or.inr ⟨s, by omega, b1, b2⟩)⟩
  by_cases z : t = i
  · rw [z]; exact c
  · exact H1 t (by omega) bt'
/-- what outcome answers: n counts as the outcomes' own numbers do -/
def cp_out (b : Bool) (o : Int32) (d : Nat → Nat) (r : Int32) : Prop := ∃ n, n ≤ 99 ∧ r = nI n ∧ ∀ j, j < 99 → (n ≤ j ↔ cp_Q b o (fun i => d i ≤ j))
theorem cp_out_le {o : Int32} {d : Nat → Nat} {le : Int32} (w : cp_w o) (H : cp_le o d 8 le) : cp_out false o d le := by
  obtain ⟨l, hl, e, H1, H2⟩ := H
  refine ⟨l, hl, e, fun j hj => ⟨fun h => ?_, fun q => ?_⟩⟩
  · rcases H2 with z | ⟨s, hs, b1, b2⟩
    · omega
    · exact ⟨⟨s, b1, by show d s ≤ j; omega⟩, fun e => Bool.noConfusion e⟩
  · obtain ⟨⟨i, b1, b2⟩, _⟩ := q
    have b3 : d i ≤ j := b2
    have := H1 i (cp_lt8 w b1) b1
    omega
theorem cp_out_mo {o : Int32} {d : Nat → Nat} {mo : Int32} (w : cp_w o) (c : ¬ mo < 0) (H : cp_mo o d 8 mo) : cp_out true o d mo := by
  rcases H with ⟨e, H⟩ | ⟨m, hm, e, ⟨s, hs, b1, b2⟩, H⟩
  · rw [e] at c
    exact absurd c (by decide)
  · refine ⟨m, hm, e, fun j hj => ⟨fun h => ?_, fun q => ?_⟩⟩
    · exact ⟨⟨s, b1, by show d s ≤ j; omega⟩, fun _ i hi => Nat.le_trans (H i (cp_lt8 w hi) hi) h⟩
    · have b3 : d s ≤ j := q.2 rfl s b1
      omega
theorem cp_out_em {o : Int32} {d : Nat → Nat} {mo le : Int32} (w : cp_w o) (c : mo < 0) (H : cp_mo o d 8 mo) (H' : cp_le o d 8 le) : cp_out true o d le := by
  rcases H with ⟨e, H⟩ | ⟨m, hm, e, ⟨s, hs, b1, b2⟩, H⟩
  · obtain ⟨l, hl, e', H1, H2⟩ := H'
    refine ⟨l, hl, e', fun j hj => ⟨fun h => ?_, fun q => ?_⟩⟩
    · rcases H2 with z | ⟨s, hs, b1, b2⟩
      · omega
      · exact absurd b1 (H s hs)
    · obtain ⟨⟨i, b1, b2⟩, _⟩ := q
      exact absurd b1 (H i (cp_lt8 w b1))
  · rw [e] at c
    exact absurd c (nI_pos (by omega))
/-! the reference's count -/
def cp_Snd (a : Nat → Int32) (g : Int32) (b : Bool) (d : Nat → Nat) : Prop := ∀ s j, s < 8 → j < 99 → d s ≤ j → bt (cp_L a g b j) s = true
def cp_Cmp (a : Nat → Int32) (g : Int32) (b : Bool) (r m : Nat) (d : Nat → Nat) : Prop :=
  (∀ j, j ≤ r → ∀ s, s < 8 → bt (cp_L a g b j) s = true → d s ≤ j) ∧ ∀ k, k < m → cp_ok (cp_al b (cp_L a g b r)) (cp_L a g b r) (a k) → d (k / 3) ≤ r + 1
def cp_up (d : Nat → Nat) (s v : Nat) : Nat → Nat := fun i => if i = s then v else d i
theorem cp_up_s (d : Nat → Nat) (s v : Nat) : cp_up d s v s = v := if_pos rfl
theorem cp_up_n (d : Nat → Nat) {s i : Nat} (v : Nat) (h : ¬ i = s) : cp_up d s v i = d i := if_neg h
theorem cp_up_le {d : Nat → Nat} {s v : Nat} (h : v < d s) (i : Nat) : cp_up d s v i ≤ d i := by
  by_cases e : i = s
  · rw [e, cp_up_s]; omega
  · rw [cp_up_n d v e]; exact Nat.le_refl _
theorem cp_c0 (a : Nat → Int32) (g : Int32) (b : Bool) {d : Nat → Nat} (h : ∀ s, s < 8 → d s = if bt g s = true then 0 else 99) : cp_Snd a g b d ∧ cp_Cmp a g b 0 0 d := by
  refine ⟨fun s j hs hj hd => ?_, fun j hj s hs e => ?_, fun k hk => absurd hk (by omega)⟩
  · by_cases e : bt g s = true
    · exact cp_L_up a g b (Nat.zero_le j) s e
    · rw [h s hs, if_neg e] at hd
      omega
  · have z : j = 0 := by omega
    subst z
    have e' : bt g s = true := e
    rw [h s hs, if_pos e']
    exact Nat.le_refl 0
theorem cp_cs1 {a : Nat → Int32} {g : Int32} {b : Bool} {d : Nat → Nat} {k n : Nat} (hw : cp_w (a k)) (hk : k < 24) (hn : ∀ j, j < 99 → (n ≤ j ↔ cp_Q b (a k) (fun i => d i ≤ j))) (S : cp_Snd a g b d) {j : Nat} (h : n + 1 ≤ j) (hj : j < 99) : bt (cp_L a g b j) (k / 3) = true := by
  obtain ⟨i, rfl⟩ : ∃ i, j = i + 1 := ⟨j - 1, by omega⟩
  have q := (hn i (by omega)).mp (by omega)
  have q' : cp_Q b (a k) (fun t => bt (cp_L a g b i) t = true) := cp_Q_mono (fun t ht hd => S t i (cp_lt8 hw ht) (by omega) hd) q
  exact (cp_L_s a g b i (k / 3)).mpr (Or.inr ⟨k, hk, rfl, (cp_QI hw).mp q'⟩)
theorem cp_cs2 {a : Nat → Int32} {g : Int32} {b : Bool} {d : Nat → Nat} {k n r m : Nat} (hw : cp_w (a k)) (hr : r < 8) (hn : ∀ j, j < 99 → (n ≤ j ↔ cp_Q b (a k) (fun i => d i ≤ j))) (C : cp_Cmp a g b r m d) (h : cp_ok (cp_al b (cp_L a g b r)) (cp_L a g b r) (a k)) : n ≤ r := by
  refine (hn r (by omega)).mpr ?_
  exact cp_Q_mono (fun t ht e => C.1 r (Nat.le_refl r) t (cp_lt8 hw ht) e) ((cp_QI hw).mpr h)
theorem cp_cup {a : Nat → Int32} {g : Int32} {b : Bool} {d : Nat → Nat} {k n r : Nat} (hw : cp_w (a k)) (hk : k < 24) (hr : r < 8) (hn : ∀ j, j < 99 → (n ≤ j ↔ cp_Q b (a k) (fun i => d i ≤ j))) (S : cp_Snd a g b d) (C : cp_Cmp a g b r k d) (c : n + 1 < d (k / 3)) :
    cp_Snd a g b (cp_up d (k / 3) (n + 1)) ∧ cp_Cmp a g b r (k + 1) (cp_up d (k / 3) (n + 1)) := by
  refine ⟨fun s j hs hj hd => ?_, fun j hj s hs e => ?_, fun k' hk' o => ?_⟩
  · by_cases z : s = k / 3
    · rw [z, cp_up_s] at hd
      rw [z]
      exact cp_cs1 hw hk hn S hd hj
    · rw [cp_up_n d _ z] at hd
      exact S s j hs hj hd
  · exact Nat.le_trans (cp_up_le c s) (C.1 j hj s hs e)
  · by_cases z : k' = k
    · rw [z] at o
      have := cp_cs2 hw hr hn C o
      rw [z, cp_up_s]
      omega
    · exact Nat.le_trans (cp_up_le c _) (C.2 k' (by omega) o)
theorem cp_cst {a : Nat → Int32} {g : Int32} {b : Bool} {d : Nat → Nat} {k n r : Nat} (hw : cp_w (a k)) (hr : r < 8) (hn : ∀ j, j < 99 → (n ≤ j ↔ cp_Q b (a k) (fun i => d i ≤ j))) (C : cp_Cmp a g b r k d) (c : ¬ n + 1 < d (k / 3)) : cp_Cmp a g b r (k + 1) d := by
  refine ⟨C.1, fun k' hk' o => ?_⟩
  by_cases z : k' = k
  · rw [z] at o
    have := cp_cs2 hw hr hn C o
    rw [z]
    omega
  · exact C.2 k' (by omega) o
theorem cp_crd {a : Nat → Int32} {g : Int32} {b : Bool} {d : Nat → Nat} {r : Nat} (C : cp_Cmp a g b r 24 d) : cp_Cmp a g b (r + 1) 0 d := by
  refine ⟨fun j hj s hs e => ?_, fun k hk => absurd hk (by omega)⟩
  by_cases z : j = r + 1
  · rw [z] at e
    rcases (cp_L_s a g b r s).mp e with e | ⟨k, hk, ek, o⟩
    · have := C.1 r (Nat.le_refl r) s hs e
      omega
    · have := C.2 k hk o
      rw [ek] at this
      omega
  · exact C.1 j (by omega) s hs e
/-- what count leaves -/
def cp_far (a : Nat → Int32) (g : Int32) (b : Bool) (d : Nat → Nat) : Prop := ∀ j, j < 99 → ∀ s, s < 8 → (d s ≤ j ↔ bt (cp_L a g b j) s = true)
theorem cp_fin {a : Nat → Int32} {g : Int32} {b : Bool} {d : Nat → Nat} (w : cp_w g) (S : cp_Snd a g b d) (C : cp_Cmp a g b 8 0 d) : cp_far a g b d := by
  intro j hj s hs
  refine ⟨fun h => S s j hs hj h, fun e => ?_⟩
  rcases Nat.lt_or_ge 8 j with z | z
  · rw [cp_L_7 a w b j (by omega), ← cp_L_7 a w b 8 (by omega)] at e
    have := C.1 8 (Nat.le_refl 8) s hs e
    omega
  · exact C.1 j z s hs e
theorem cp_far98 {a : Nat → Int32} {g : Int32} {b : Bool} {d : Nat → Nat} (w : cp_w g) (H : cp_far a g b d) {s : Nat} (hs : s < 8) : d s < 99 ↔ bt (cp_L a g b 8) s = true := by
  rw [cp_L_7 a w b 8 (by omega), ← cp_L_7 a w b 98 (by omega), ← H 98 (by omega) s hs]
  omega
/-! the reference's keeps -/
def cp_Lo (a : Nat → Int32) (g S : Int32) (r m : Nat) (near : Int32) : Prop :=
  cp_F a g S = S → cp_sub (cp_it (cp_T a S) g r) near ∧ ∀ k, k < m → cp_ok S (cp_it (cp_T a S) g r) (a k) → bt near (k / 3) = true
theorem cp_k0 (a : Nat → Int32) (g S : Int32) : cp_sub g (cp_F a g S) ∧ cp_Lo a g S 0 0 g :=
  ⟨cp_F_g a g S, fun _ => ⟨cp_sub_rfl _, fun k hk => absurd hk (by omega)⟩⟩
theorem cp_kstep {a : Nat → Int32} {g S near near' : Int32} {k r : Nat} (w : cp_w g) (hk : k < 24) (hr : r < 8) (U : cp_sub near (cp_F a g S)) (L : cp_Lo a g S r k near)
    (h : ∀ s, bt near' s = true ↔ bt near s = true ∨ (s = k / 3 ∧ bt S (k / 3) = true ∧ cp_ok S near (a k))) : cp_sub near' (cp_F a g S) ∧ cp_Lo a g S r (k + 1) near' := by
  constructor
  · intro s e
    rcases (h s).mp e with e | ⟨e, _, o⟩
    · exact U s e
    · rw [← cp_F_cl a w S]
      exact (cp_T_bt a S _ s).mpr (Or.inr ⟨k, hk, e.symm, cp_ok_mono o (cp_sub_rfl S) U⟩)
  · intro fS
    obtain ⟨L1, L2⟩ := L fS
    refine ⟨fun s e => (h s).mpr (Or.inl (L1 s e)), fun k' hk' o => ?_⟩
    by_cases z : k' = k
    · rw [z] at o ⊢
      refine (h _).mpr (Or.inr ⟨rfl, ?_, cp_ok_mono o (cp_sub_rfl S) L1⟩)
      have e : bt (cp_it (cp_T a S) g (r + 1)) (k / 3) = true := by
        rw [cp_it_s]
        exact (cp_T_bt a S _ _).mpr (Or.inr ⟨k, hk, rfl, o⟩)
      have e' := cp_F_lev a g S (r := r + 1) (by omega) _ e
      rw [fS] at e'
      exact e'
    · exact (h _).mpr (Or.inl (L2 k' (by omega) o))
theorem cp_krd {a : Nat → Int32} {g S near : Int32} {r : Nat} (L : cp_Lo a g S r 24 near) : cp_Lo a g S (r + 1) 0 near := by
  intro fS
  obtain ⟨L1, L2⟩ := L fS
  refine ⟨fun s e => ?_, fun k hk => absurd hk (by omega)⟩
  rw [cp_it_s] at e
  rcases (cp_T_bt a S _ s).mp e with e | ⟨k, hk, ek, o⟩
  · exact L1 s e
  · rw [← ek]
    exact L2 k hk o
theorem cp_kfin {a : Nat → Int32} {g S near : Int32} (U : cp_sub near (cp_F a g S)) (L : cp_Lo a g S 8 0 near) : (cp_sub S near → cp_sub S (cp_F a g S)) ∧ (cp_F a g S = S → cp_sub S near) := by
  refine ⟨fun h => cp_sub_tr h U, fun fS => ?_⟩
  have h : cp_sub (cp_F a g S) near := (L fS).1
  rw [fS] at h
  exact h
/-! the reference's safe: the union over the 256 sets -/
def cp_un (a : Nat → Int32) (g : Int32) (m : Nat) (all : Int32) : Prop := cp_sub g all ∧ cp_sub all (cp_K a g 8) ∧ ∀ i, i < m → cp_K a g 8 = nI i → cp_sub (cp_K a g 8) all
theorem cp_un0 (a : Nat → Int32) {g : Int32} (w : cp_w g) : cp_un a g 0 g := ⟨cp_sub_rfl g, cp_K_g a w, fun i hi => absurd hi (by omega)⟩
theorem cp_un_t {a : Nat → Int32} {g all : Int32} {m : Nat} (hm : m < 256) (U : cp_un a g m all) (h : cp_sub (nI m) (cp_F a g (nI m))) : cp_un a g (m + 1) (all ||| nI m) := by
  obtain ⟨u1, u2, u3⟩ := U
  refine ⟨fun s e => (cp_orT _ _ s).mpr (Or.inl (u1 s e)), fun s e => ?_, fun i hi e s e' => ?_⟩
  · rcases (cp_orT _ _ s).mp e with e | e
    · exact u2 s e
    · exact cp_K_in a g (cp_wn hm) h 8 s e
  · by_cases z : i = m
    · rw [e, z] at e'
      exact (cp_orT _ _ s).mpr (Or.inr e')
    · exact (cp_orT _ _ s).mpr (Or.inl (u3 i (by omega) e s e'))
theorem cp_un_f {a : Nat → Int32} {g all : Int32} {m : Nat} (w : cp_w g) (U : cp_un a g m all) (h : ¬ (cp_sub g (nI m) ∧ (cp_F a g (nI m) = nI m))) : cp_un a g (m + 1) all := by
  obtain ⟨u1, u2, u3⟩ := U
  refine ⟨u1, u2, fun i hi e => ?_⟩
  by_cases z : i = m
  · refine absurd ?_ h
    rw [← z, ← e]
    exact ⟨cp_K_g a w, cp_K_8 a w⟩
  · exact u3 i (by omega) e
theorem cp_unE {a : Nat → Int32} {g all : Int32} (w : cp_w g) (U : cp_un a g 256 all) : all = cp_K a g 8 := by
  obtain ⟨u1, u2, u3⟩ := U
  obtain ⟨n, hn, e⟩ := cp_nw (cp_K_w a w 8)
  exact cp_anti u2 (u3 n hn e)
/-! reached -/
theorem cp_rch {a : Nat → Int32} {g : Int32} {b : Bool} {d : Nat → Nat} {x : Int32} (w : cp_w g) (H : cp_far a g b d) (h : ∀ i, bt x i = true ↔ i < 8 ∧ d i < 99) : x = cp_L a g b 8 := by
  refine cp_anti (fun i e => ?_) (fun i e => ?_)
  · obtain ⟨h1, h2⟩ := (h i).mp e
    exact (cp_far98 w H h1).mp h2
  · have h1 := cp_lt8 (cp_L_w a w b 8) e
    exact (h i).mpr ⟨h1, (cp_far98 w H h1).mpr e⟩
/-! steps and luck: the first level that holds s -/
def cp_num (a : Nat → Int32) (g : Int32) (b : Bool) (s : Nat) (r : Int32) : Prop :=
  (∃ k, k < 8 ∧ r = nI k ∧ bt (cp_L a g b k) s = true ∧ ∀ j, j < k → ¬ bt (cp_L a g b j) s = true) ∨ (r = -2 ∧ ¬ bt (cp_L a g b 7) s = true)
theorem cp_num_d {a : Nat → Int32} {g : Int32} {b : Bool} {d : Nat → Nat} {s : Nat} {r : Int32} (w : cp_w g) (H : cp_far a g b d) (hs : s < 8) (N : cp_num a g b s r) : (d s < 99 → nI (d s) = r) ∧ (¬ d s < 99 → r = -2) := by
  rcases N with ⟨k, hk, e, h1, h2⟩ | ⟨e, h⟩
  · have z : d s = k := by
      have l := (H k (by omega) s hs).mpr h1
      rcases Nat.lt_or_ge (d s) k with y | y
      · exact absurd ((H (d s) (by omega) s hs).mp (Nat.le_refl _)) (h2 _ y)
      · omega
    exact ⟨fun _ => by rw [z, e], fun c => absurd (by omega : d s < 99) c⟩
  · have z : ¬ d s < 99 := by
      rw [cp_far98 w H hs, cp_L_7 a w b 8 (by omega)]
      exact h
    exact ⟨fun c => absurd c z, fun _ => e⟩
/-! sureAction: which actions fit -/
theorem cp_fit {a : Nat → Int32} {g : Int32} {d : Nat → Nat} {s k q n : Nat} (H : cp_far a g true d) (hs : s < 8) (hk : d s = k + 1) (hk9 : k < 98) (hq : q < 24) (hq3 : q / 3 = s) (hw : cp_w (a q))
    (hn : ∀ j, j < 99 → (n ≤ j ↔ cp_Q true (a q) (fun i => d i ≤ j))) : n + 1 = d s ↔ (¬ a q = 0 ∧ cp_sub (a q) (cp_L a g true k)) := by
  have key : n ≤ k ↔ (¬ a q = 0 ∧ cp_sub (a q) (cp_L a g true k)) := by
    rw [hn k (by omega), cp_ne0]
    constructor
    · rintro ⟨⟨i, b1, b2⟩, h⟩
      exact ⟨⟨i, b1⟩, fun t ht => (H k (by omega) t (cp_lt8 hw ht)).mp (h rfl t ht)⟩
    · rintro ⟨⟨i, b1⟩, h⟩
      have h' : ∀ t, bt (a q) t = true → d t ≤ k := fun t ht => (H k (by omega) t (cp_lt8 hw ht)).mpr (h t ht)
      exact ⟨⟨i, b1, h' i b1⟩, fun _ => h'⟩
  rw [← key, hk]
  constructor
  · intro h; omega
  · intro h
    rcases Nat.lt_or_ge n k with z | z
    · have q1 := (hn n (by omega)).mp (Nat.le_refl n)
      have q2 : cp_Q true (a q) (fun t => bt (cp_L a g true n) t = true) := cp_Q_mono (fun t ht hd => (H n (by omega) t (cp_lt8 hw ht)).mp hd) q1
      have e : bt (cp_L a g true (n + 1)) s = true := (cp_L_s a g true n s).mpr (Or.inr ⟨q, hq, hq3, (cp_QI hw).mp q2⟩)
      have := (H (n + 1) (by omega) s hs).mpr e
      omega
    · omega
