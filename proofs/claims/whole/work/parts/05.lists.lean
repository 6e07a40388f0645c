/-- the arrays hold the list from place i on -/
def ly_At (a b : Nat → Int32) : Nat → List (Nat × Int32) → Prop
  | _, [] => True
  | i, p :: S => (a i = nI p.1 ∧ b i = p.2) ∧ ly_At a b (i + 1) S
def ly_Gd (S : List (Nat × Int32)) : Prop := ∀ p, p ∈ S → ly_Word p.1
def ly_Srt (S : List (Nat × Int32)) : Prop := S.Pairwise (fun p q => ly_K p.1 < ly_K q.1)
def ly_ct (key : Nat) (S : List (Nat × Int32)) : Nat := S.countP (fun p => decide (ly_K p.1 < key))
def ly_Rep (S : List (Nat × Int32)) (u : SX) : Prop := ∃ a b, u = (nI S.length, a, b) ∧ ly_At a b 0 S ∧ ly_Gd S ∧ S.length ≤ 40
theorem ly_At_app {a b : Nat → Int32} : ∀ {S T : List (Nat × Int32)} {i : Nat}, ly_At a b i (S ++ T) ↔ ly_At a b i S ∧ ly_At a b (i + S.length) T := by
  intro S
  induction S with
  | nil => intro T i; exact ⟨fun h => ⟨trivial, h⟩, fun h => h.2⟩
  | cons p S ih =>
    intro T i
    show (_ ∧ ly_At a b (i + 1) (S ++ T)) ↔ (_ ∧ ly_At a b (i + 1) S) ∧ _
    rw [ih, List.length_cons, show i + 1 + S.length = i + (S.length + 1) from by omega]
    exact and_assoc.symm
theorem ly_At_mv {a b a' b' : Nat → Int32} : ∀ {S : List (Nat × Int32)} {i i' : Nat}, (∀ j, j < S.length → a' (i' + j) = a (i + j) ∧ b' (i' + j) = b (i + j)) → ly_At a b i S → ly_At a' b' i' S := by
  intro S
  induction S with
  | nil => intro i i' _ _; trivial
  | cons p S ih =>
    intro i i' h hA
    have h0 := h 0 (by rw [List.length_cons]; omega)
    rw [Nat.add_zero, Nat.add_zero] at h0
    refine ⟨⟨h0.1.trans hA.1.1, h0.2.trans hA.1.2⟩, ih (i := i + 1) (fun j hj => ?_) hA.2⟩
    have h1 := h (j + 1) (by rw [List.length_cons]; omega)
    rw [show i' + (j + 1) = i' + 1 + j from by omega, show i + (j + 1) = i + 1 + j from by omega] at h1
    exact h1
theorem ly_At_mid {a b : Nat → Int32} {A B : List (Nat × Int32)} {q : Nat × Int32} (h : ly_At a b 0 (A ++ q :: B)) : a A.length = nI q.1 ∧ b A.length = q.2 := by
  have h2 := (ly_At_app.mp h).2.1
  rw [Nat.zero_add] at h2; exact h2
theorem ly_Gd_c {p : Nat × Int32} {S : List (Nat × Int32)} (h : ly_Gd (p :: S)) : ly_Word p.1 ∧ ly_Gd S := ⟨h p (List.mem_cons_self ..), fun q hq => h q (List.mem_cons_of_mem _ hq)⟩
theorem ly_ct_cons {key : Nat} {p : Nat × Int32} {S : List (Nat × Int32)} : ly_ct key (p :: S) = ly_ct key S + if ly_K p.1 < key then 1 else 0 := by
  unfold ly_ct; rw [List.countP_cons]; simp only [decide_eq_true_eq]
theorem ly_ct_app {key : Nat} {A B : List (Nat × Int32)} : ly_ct key (A ++ B) = ly_ct key A + ly_ct key B := List.countP_append ..
theorem ly_ct_perm {key : Nat} {A B : List (Nat × Int32)} (h : A.Perm B) : ly_ct key A = ly_ct key B := h.countP_eq _
theorem ly_ct_all {key : Nat} : ∀ {A : List (Nat × Int32)}, (∀ p, p ∈ A → ly_K p.1 < key) → ly_ct key A = A.length := by
  intro A
  induction A with
  | nil => intro _; rfl
  | cons p A ih =>
    intro h
    rw [ly_ct_cons, if_pos (h p (List.mem_cons_self ..)), ih (fun q hq => h q (List.mem_cons_of_mem _ hq)), List.length_cons]
theorem ly_ct_none {key : Nat} : ∀ {A : List (Nat × Int32)}, (∀ p, p ∈ A → key ≤ ly_K p.1) → ly_ct key A = 0 := by
  intro A
  induction A with
  | nil => intro _; rfl
  | cons p A ih =>
    intro h
    rw [ly_ct_cons, if_neg (Nat.not_lt.mpr (h p (List.mem_cons_self ..))), ih (fun q hq => h q (List.mem_cons_of_mem _ hq))]
/-! scans -/
theorem ly_place_l {post : Int32 → Prop} {key N : Nat} {a b : Nat → Int32} (hk : key < 4000000) (hN : N ≤ 40) : ∀ (S : List (Nat × Int32)) (i c : Nat), ly_Gd S → ly_At a b i S → i + S.length = N → post (nI (c + ly_ct key S)) → wX_placeOf_10 post (nI key) (nI N) a b (S.length + 1) (nI c) (nI i) := by
  intro S
  induction S with
  | nil =>
    intro i c _ _ hi p
    have hi : i + 0 = N := hi
    exact br_t (nI_le (by omega) (by omega)) p
  | cons q S ih =>
    intro i c hG hA hi p
    rw [List.length_cons] at hi
    have hq := (ly_Gd_c hG).1.1
    have hK := ly_K_lt hq
    refine br_f (nI_ge (by omega) (by omega)) ⟨vp_in_nI (by omega) (by omega), ?_⟩
    rw [nI_clamp (by omega), hA.1.1]
    refine ly_key hq (pk_le key (ly_K q.1) (fun l => nm_r (nI_1 i) (ih (i + 1) c (ly_Gd_c hG).2 hA.2 (by omega) ?_)) (fun l => nm_r (nI_1 c) (nm_r (nI_1 i) (ih (i + 1) (c + 1) (ly_Gd_c hG).2 hA.2 (by omega) ?_))) rfl rfl (by omega) (by omega))
    · rw [ly_ct_cons, if_neg (by omega)] at p; exact p
    · rw [ly_ct_cons, if_pos l] at p
      rw [show c + 1 + ly_ct key S = c + (ly_ct key S + 1) from by omega]; exact p
theorem ly_place {post : Int32 → Prop} {u : SX} {S : List (Nat × Int32)} {w : Nat} (hR : ly_Rep S u) (hw : ly_Row w) (p : post (nI (ly_ct (ly_K w) S))) : wpX_placeOf post u (nI w) := by
  obtain ⟨a, b, rfl, hA, hG, hl⟩ := hR
  unfold wpX_placeOf; dsimp only
  refine ly_key hw (Exists.intro _ (ly_place_l (ly_K_lt hw) hl S 0 0 hG hA (by omega) ?_))
  rw [Nat.zero_add]; exact p
theorem ly_ahead_l {post : Int32 → Prop} {w N : Nat} {a b : Nat → Int32} (hw : ly_Row w) (hN : N ≤ 40) : ∀ (S : List (Nat × Int32)) (i c : Nat), ly_Gd S → ly_At a b i S → i + S.length = N → post (nI (c + ly_ct (ly_K w) S)) → wY_ahead_4 post (nI w) (nI N) a b (S.length + 1) (nI c) (nI i) := by
  intro S
  induction S with
  | nil =>
    intro i c _ _ hi p
    have hi : i + 0 = N := hi
    exact br_t (nI_le (by omega) (by omega)) p
  | cons q S ih =>
    intro i c hG hA hi p
    rw [List.length_cons] at hi
    have hq := (ly_Gd_c hG).1.1
    refine br_f (nI_ge (by omega) (by omega)) (br_f (nI_ge (b := 40) (by omega) (by omega)) ⟨vp_in_nI (by omega) (by omega), ?_⟩)
    rw [nI_clamp (by omega), hA.1.1]
    refine ly_before hq hw (fun l => br_f (by decide) (nm_r (nI_1 c) (nm_r (nI_1 i) (ih (i + 1) (c + 1) (ly_Gd_c hG).2 hA.2 (by omega) ?_)))) (fun l => br_t rfl (nm_r (nI_1 i) (ih (i + 1) c (ly_Gd_c hG).2 hA.2 (by omega) ?_)))
    · rw [ly_ct_cons, if_pos l] at p
      rw [show c + 1 + ly_ct (ly_K w) S = c + (ly_ct (ly_K w) S + 1) from by omega]; exact p
    · rw [ly_ct_cons, if_neg l] at p; exact p
theorem ly_ahead {post : Int32 → Prop} {v : SY} {S : List (Nat × Int32)} {w : Nat} (hR : ly_Rep S v) (hw : ly_Row w) (p : post (nI (ly_ct (ly_K w) S))) : wpY_ahead post v (nI w) := by
  obtain ⟨a, b, rfl, hA, hG, hl⟩ := hR
  refine Exists.intro _ (ly_ahead_l hw hl S 0 0 hG hA (by omega) ?_)
  rw [Nat.zero_add]; exact p
theorem ly_find_l {x : Int32} {N : Nat} {a b : Nat → Int32} (hN : N ≤ 40) : ∀ (S : List (Nat × Int32)) (i : Nat), ly_At a b i S → i + S.length = N → (∃ C q D, S = C ++ q :: D ∧ nI q.1 = x ∧ ∀ post : Int32 → Prop, post (nI (i + C.length)) → wY_find_2 post x (nI N) a b (S.length + 1) (nI i)) ∨ ((∀ q, q ∈ S → nI q.1 ≠ x) ∧ ∀ post : Int32 → Prop, post (-1) → wY_find_2 post x (nI N) a b (S.length + 1) (nI i)) := by
  intro S
  induction S with
  | nil =>
    intro i _ hi
    have hi : i + 0 = N := hi
    exact Or.inr ⟨fun q hq => (nomatch hq), fun post p => br_t (nI_le (by omega) (by omega)) p⟩
  | cons q S ih =>
    intro i hA hi
    rw [List.length_cons] at hi
    have hst : ∀ post : Int32 → Prop, (nI q.1 = x → post (nI i)) → (¬ nI q.1 = x → wY_find_2 post x (nI N) a b (S.length + 1) (nI (i + 1))) → wY_find_2 post x (nI N) a b ((q :: S).length + 1) (nI i) := by
      intro post p1 p2
      refine br_f (nI_ge (by omega) (by omega)) (br_f (nI_ge (b := 40) (by omega) (by omega)) ⟨vp_in_nI (by omega) (by omega), ?_⟩)
      rw [nI_clamp (by omega), hA.1.1]
      exact br_c p1 (fun e => nm_r (nI_1 i) (p2 e))
    by_cases e : nI q.1 = x
    · exact Or.inl ⟨[], q, S, rfl, e, fun post p => hst post (fun _ => p) (fun z => absurd e z)⟩
    · rcases ih (i + 1) hA.2 (by omega) with ⟨C, r, D, eS, er, h⟩ | ⟨hn, h⟩
      · refine Or.inl ⟨q :: C, r, D, by rw [eS]; rfl, er, fun post p => hst post (fun z => absurd z e) (fun _ => h post ?_)⟩
        rw [List.length_cons] at p
        rw [show i + 1 + C.length = i + (C.length + 1) from by omega]; exact p
      · refine Or.inr ⟨fun r hr => ?_, fun post p => hst post (fun z => absurd z e) (fun _ => h post p)⟩
        rcases List.mem_cons.mp hr with rfl | hr
        · exact e
        · exact hn r hr
theorem ly_find {v : SY} {S : List (Nat × Int32)} (x : Int32) (hR : ly_Rep S v) : (∃ C q D, S = C ++ q :: D ∧ nI q.1 = x ∧ ∀ post : Int32 → Prop, post (nI C.length) → wpY_find post v x) ∨ ((∀ q, q ∈ S → nI q.1 ≠ x) ∧ ∀ post : Int32 → Prop, post (-1) → wpY_find post v x) := by
  obtain ⟨a, b, rfl, hA, hG, hl⟩ := hR
  rcases ly_find_l (x := x) hl S 0 hA (by omega) with ⟨C, q, D, e1, e2, h⟩ | ⟨hn, h⟩
  · refine Or.inl ⟨C, q, D, e1, e2, fun post p => Exists.intro _ (h post ?_)⟩
    rw [Nat.zero_add]; exact p
  · exact Or.inr ⟨hn, fun post p => Exists.intro _ (h post p)⟩
/-! the sorted side -/
theorem ly_split {key : Nat} : ∀ {S : List (Nat × Int32)}, ly_Srt S → ∃ A B, S = A ++ B ∧ A.length = ly_ct key S ∧ (∀ p, p ∈ A → ly_K p.1 < key) ∧ (∀ p, p ∈ B → key ≤ ly_K p.1) := by
  intro S
  induction S with
  | nil => intro _; exact ⟨[], [], rfl, rfl, fun p hp => (nomatch hp), fun p hp => (nomatch hp)⟩
  | cons p S ih =>
    intro h
    have h := List.pairwise_cons.mp h
    by_cases hp : ly_K p.1 < key
    · obtain ⟨A, B, e, hl, hA, hB⟩ := ih h.2
      refine ⟨p :: A, B, by rw [e]; rfl, by rw [ly_ct_cons, if_pos hp, List.length_cons, hl], fun q hq => ?_, hB⟩
      rcases List.mem_cons.mp hq with rfl | hq
      · exact hp
      · exact hA q hq
    · have hall : ∀ q, q ∈ p :: S → key ≤ ly_K q.1 := by
        intro q hq
        rcases List.mem_cons.mp hq with rfl | hq
        · omega
        · have := h.1 q hq; omega
      exact ⟨[], p :: S, rfl, (ly_ct_none hall).symm, fun q hq => (nomatch hq), hall⟩
theorem ly_Srt_mid {A B : List (Nat × Int32)} {q : Nat × Int32} (h : ly_Srt (A ++ q :: B)) : (∀ p, p ∈ A → ly_K p.1 < ly_K q.1) ∧ (∀ p, p ∈ B → ly_K q.1 < ly_K p.1) ∧ ly_Srt (A ++ B) := by
  have h' := List.pairwise_append.mp h
  have h2 := List.pairwise_cons.mp h'.2.1
  exact ⟨fun p hp => h'.2.2 p hp q (List.mem_cons_self ..), h2.1, List.pairwise_append.mpr ⟨h'.1, h2.2, fun x hx y hy => h'.2.2 x hx y (List.mem_cons_of_mem _ hy)⟩⟩
theorem ly_ct_mid {A B : List (Nat × Int32)} {q : Nat × Int32} (h : ly_Srt (A ++ q :: B)) : ly_ct (ly_K q.1) (A ++ q :: B) = A.length := by
  have h2 := ly_Srt_mid h
  rw [ly_ct_app, ly_ct_cons, if_neg (by omega), ly_ct_all h2.1, ly_ct_none (fun p hp => Nat.le_of_lt (h2.2.1 p hp))]
  rfl
theorem ly_hold {w : Nat} {S : List (Nat × Int32)} (hw : ly_Row w) (hG : ly_Gd S) (hS : ly_Srt S) : (∃ A x B, S = A ++ (w, x) :: B ∧ A.length = ly_ct (ly_K w) S) ∨ (∃ A B, S = A ++ B ∧ A.length = ly_ct (ly_K w) S ∧ (∀ p, p ∈ A → ly_K p.1 < ly_K w) ∧ (∀ p, p ∈ B → ly_K w < ly_K p.1)) := by
  obtain ⟨A, B, e, hl, hA, hB⟩ := ly_split (key := ly_K w) hS
  cases B with
  | nil => exact Or.inr ⟨A, [], e, hl, hA, fun p hp => (nomatch hp)⟩
  | cons q B =>
    by_cases hq : q.1 = w
    · exact Or.inl ⟨A, q.2, B, by rw [e, ← hq], hl⟩
    · refine Or.inr ⟨A, q :: B, e, hl, hA, fun p hp => ?_⟩
      have hqr : ly_Row q.1 := (hG q (by rw [e]; exact List.mem_append_right _ (List.mem_cons_self ..))).1
      have h1 := hB q (List.mem_cons_self ..)
      have h2 : ly_K w ≠ ly_K q.1 := fun z => hq (ly_K_inj hw hqr z).symm
      rcases List.mem_cons.mp hp with rfl | hp
      · omega
      · rw [e] at hS
        have := (ly_Srt_mid hS).2.1 p hp
        omega
theorem ly_held_y {post : Int32 → Prop} {u : SX} {A B : List (Nat × Int32)} {w : Nat} {x : Int32} (hR : ly_Rep (A ++ (w, x) :: B) u) (p : post 1) : wpX_isHeldAt post u (nI A.length) (nI w) := by
  obtain ⟨a, b, rfl, hA, hG, hl⟩ := hR
  have hm := ly_At_mid hA
  rw [List.length_append, List.length_cons] at hl
  unfold wpX_isHeldAt; dsimp only
  refine br_f (nI_ge (by rw [List.length_append, List.length_cons]; omega) (by rw [List.length_append, List.length_cons]; omega)) ⟨vp_in_nI (by omega) (by omega), ?_⟩
  rw [nI_clamp (by omega), hm.1]
  exact br_t rfl p
theorem ly_held_n {post : Int32 → Prop} {u : SX} {A B : List (Nat × Int32)} {w : Nat} (hR : ly_Rep (A ++ B) u) (hB : ∀ p, p ∈ B → p.1 ≠ w) (hw : w < 524288) (p : post 0) : wpX_isHeldAt post u (nI A.length) (nI w) := by
  obtain ⟨a, b, rfl, hA, hG, hl⟩ := hR
  unfold wpX_isHeldAt; dsimp only
  cases B with
  | nil =>
    rw [List.append_nil] at hl ⊢
    exact br_t (nI_le (by omega) (by omega)) p
  | cons q B =>
    have hm := ly_At_mid hA
    rw [List.length_append, List.length_cons] at hl
    have hq := ly_word_ge (hG q (List.mem_append_right _ (List.mem_cons_self ..)))
    refine br_f (nI_ge (by rw [List.length_append, List.length_cons]; omega) (by rw [List.length_append, List.length_cons]; omega)) ⟨vp_in_nI (by omega) (by omega), ?_⟩
    rw [nI_clamp (by omega), hm.1]
    exact br_f (fun z => hB q (List.mem_cons_self ..) ((nI_eq (by omega) (by omega)).mp z)) p
