/-- the one table sorted, the other in the order of the puts: the same pairs -/
def ly_R (u : SX) (v : SY) : Prop := ∃ L M, ly_Rep L u ∧ ly_Rep M v ∧ L.Perm M ∧ ly_Srt L
def i_Rel (_ : Nat) (u : SX) (v : SY) : Prop := ly_R u v
theorem i_up {k : Nat} {u : SX} {v : SY} (h : i_Rel k u v) : i_Rel (k + 4) u v := h
theorem i_vc0 : wpX_init (fun u => wpY_init (fun v => i_Rel 0 u v)) :=
  ⟨[], [], ⟨fun _ => 0, fun _ => 0, rfl, trivial, fun _ h => (nomatch h), by decide⟩, ⟨fun _ => 0, fun _ => 0, rfl, trivial, fun _ h => (nomatch h), by decide⟩, List.Perm.nil, List.Pairwise.nil⟩
theorem ly_len {L : List (Nat × Int32)} {u : SX} (h : ly_Rep L u) : u.1 = nI L.length ∧ L.length ≤ 40 := by
  obtain ⟨a, b, rfl, _, _, hl⟩ := h
  exact ⟨rfl, hl⟩
theorem ly_gd {L : List (Nat × Int32)} {u : SX} (h : ly_Rep L u) : ly_Gd L := by
  obtain ⟨a, b, rfl, _, hG, hl⟩ := h
  exact hG
theorem ly_look {u : SX} {v : SY} {L M : List (Nat × Int32)} {w : Nat} (hL : ly_Rep L u) (hM : ly_Rep M v) (hP : L.Perm M) (hS : ly_Srt L) (hw : ly_Word w) :
    (∃ A x B C D, L = A ++ (w, x) :: B ∧ M = C ++ (w, x) :: D ∧ A.length = ly_ct (ly_K w) L ∧ (∀ post : Int32 → Prop, post 1 → wpX_isHeldAt post u (nI A.length) (nI w)) ∧ (∀ post : Int32 → Prop, post (nI C.length) → wpY_find post v (nI w)))
    ∨ (∃ A B, L = A ++ B ∧ A.length = ly_ct (ly_K w) L ∧ (∀ p, p ∈ A → ly_K p.1 < ly_K w) ∧ (∀ p, p ∈ B → ly_K w < ly_K p.1) ∧ (∀ post : Int32 → Prop, post 0 → wpX_isHeldAt post u (nI A.length) (nI w)) ∧ (∀ post : Int32 → Prop, post (-1) → wpY_find post v (nI w))) := by
  have hwl := ly_word_ge hw
  have hG := ly_gd hM
  rcases ly_hold hw.1 (ly_gd hL) hS with ⟨A, x, B, e, hl⟩ | ⟨A, B, e, hl, hA, hB⟩
  · left
    have hin : (w, x) ∈ M := hP.mem_iff.mp (by rw [e]; exact List.mem_append_right _ (List.mem_cons_self ..))
    rcases ly_find (nI w) hM with ⟨C, q, D, e1, e2, h⟩ | ⟨hn, h⟩
    · have hqM : q ∈ M := by rw [e1]; exact List.mem_append_right _ (List.mem_cons_self ..)
      have hq := ly_word_ge (hG q hqM)
      rw [nI_eq (by omega) (by omega)] at e2
      have hqL : q ∈ L := hP.mem_iff.mpr hqM
      have hS' := hS
      rw [e] at hS'
      have hm := ly_Srt_mid hS'
      have eq : q = (w, x) := by
        rw [e] at hqL
        rcases List.mem_append.mp hqL with z | z
        · have := hm.1 q z; rw [e2] at this; exact absurd this (Nat.lt_irrefl _)
        · rcases List.mem_cons.mp z with z | z
          · exact z
          · have := hm.2.1 q z; rw [e2] at this; exact absurd this (Nat.lt_irrefl _)
      refine ⟨A, x, B, C, D, e, by rw [e1, eq], hl, fun post p => ?_, h⟩
      rw [e] at hL
      exact ly_held_y hL p
    · exact absurd rfl (hn _ hin)
  · right
    refine ⟨A, B, e, hl, hA, hB, fun post p => ?_, ?_⟩
    · rw [e] at hL
      refine ly_held_n hL (fun q hq z => ?_) hwl.2 p
      have := hB q hq
      rw [z] at this; exact Nat.lt_irrefl _ this
    · rcases ly_find (nI w) hM with ⟨C, q, D, e1, e2, h⟩ | ⟨hn, h⟩
      · exfalso
        have hqM : q ∈ M := by rw [e1]; exact List.mem_append_right _ (List.mem_cons_self ..)
        have hq := ly_word_ge (hG q hqM)
        rw [nI_eq (by omega) (by omega)] at e2
        have hqL : q ∈ L := hP.mem_iff.mpr hqM
        rw [e] at hqL
        rcases List.mem_append.mp hqL with z | z
        · have := hA q z; rw [e2] at this; exact Nat.lt_irrefl _ this
        · have := hB q z; rw [e2] at this; exact Nat.lt_irrefl _ this
      · exact h
theorem ly_fnone {v : SY} {M : List (Nat × Int32)} {x : Int32} (hM : ly_Rep M v) (hx : ly_NW x) (post : Int32 → Prop) (p : post (-1)) : wpY_find post v x := by
  rcases ly_find x hM with ⟨C, q, D, e1, e2, h⟩ | ⟨hn, h⟩
  · exact absurd e2 (ly_NW_ne hx (ly_gd hM q (by rw [e1]; exact List.mem_append_right _ (List.mem_cons_self ..))))
  · exact h post p
theorem i_vc_size {k : Nat} {u : SX} {v : SY} (I : i_Rel k u v) (hk : k + 4 ≤ 2048) : wpX_size (fun r => wpY_size (fun r' => r' = r ∧ i_Rel (k + 4) u v) v) u := by
  obtain ⟨L, M, hL, hM, hP, hS⟩ := id I
  obtain ⟨h, a, b⟩ := u
  obtain ⟨c, a', b'⟩ := v
  exact ⟨(ly_len hM).1.trans ((congrArg nI hP.length_eq.symm).trans (ly_len hL).1.symm), I⟩
theorem i_vc_rank {k : Nat} {u : SX} {v : SY} (I : i_Rel k u v) (hk : k + 4 ≤ 2048) (v1 : Int32) : wpX_rank (fun r => wpY_rank (fun r' => r' = r ∧ i_Rel (k + 4) u v) v v1) u v1 := by
  obtain ⟨L, M, hL, hM, hP, hS⟩ := id I
  obtain ⟨h, a, b⟩ := u
  obtain ⟨c, a', b'⟩ := v
  unfold wpX_rank wpY_rank; dsimp only
  rcases ly_csW v1 with ⟨w, hw, rfl⟩ | hn
  · refine ly_isWord_y hw (br_f (by decide) (ly_place hL hw.1 (ly_badWord_y hw (br_t rfl (ly_ahead hM hw.1 ⟨?_, I⟩)))))
    rw [ly_ct_perm hP]
  · exact ly_isWord_n hn (br_t rfl (ly_badWord_n hn (br_f (by decide) ⟨rfl, I⟩)))
theorem i_vc_has {k : Nat} {u : SX} {v : SY} (I : i_Rel k u v) (hk : k + 4 ≤ 2048) (v1 : Int32) : wpX_has (fun r => wpY_has (fun r' => r' = r ∧ i_Rel (k + 4) u v) v v1) u v1 := by
  obtain ⟨L, M, hL, hM, hP, hS⟩ := id I
  obtain ⟨h, a, b⟩ := u
  obtain ⟨c, a', b'⟩ := v
  unfold wpX_has wpY_has; dsimp only
  rcases ly_csW v1 with ⟨w, hw, rfl⟩ | hn
  · refine ly_isWord_y hw (br_f (by decide) (ly_place hL hw.1 ?_))
    rcases ly_look hL hM hP hS hw with ⟨A, x, B, C, D, eL, eM, hl, hX, hY⟩ | ⟨A, B, eL, hl, hA, hB, hX, hY⟩
    · rw [← hl]
      have h2 := (ly_len hM).2
      rw [eM, List.length_append] at h2
      exact hX _ (br_f (by decide) (ly_badWord_y hw (br_t rfl (hY _ (br_f (nI_pos (by omega)) ⟨rfl, I⟩)))))
    · rw [← hl]
      exact hX _ (br_t rfl (ly_badWord_y hw (br_t rfl (hY _ (br_t (by decide) ⟨rfl, I⟩)))))
  · exact ly_isWord_n hn (br_t rfl (ly_badWord_n hn (br_f (by decide) ⟨rfl, I⟩)))
theorem i_vc_get {k : Nat} {u : SX} {v : SY} (I : i_Rel k u v) (hk : k + 4 ≤ 2048) (v1 : Int32) : wpX_get (fun r => wpY_get (fun r' => r' = r ∧ i_Rel (k + 4) u v) v v1) u v1 := by
  obtain ⟨L, M, hL, hM, hP, hS⟩ := id I
  obtain ⟨h, a, b⟩ := u
  obtain ⟨c, a', b'⟩ := v
  unfold wpX_get wpY_get; dsimp only
  rcases ly_csW v1 with ⟨w, hw, rfl⟩ | hn
  · refine ly_isWord_y hw (br_f (by decide) (ly_place hL hw.1 ?_))
    rcases ly_look hL hM hP hS hw with ⟨A, x, B, C, D, eL, eM, hl, hX, hY⟩ | ⟨A, B, eL, hl, hA, hB, hX, hY⟩
    · rw [← hl]
      have h1 := (ly_len hL).2
      have h2 := (ly_len hM).2
      obtain ⟨a1, b1, e1, hA1, _, _⟩ := id hL
      obtain ⟨a2, b2, e2, hA2, _, _⟩ := id hM
      cases e1; cases e2
      rw [eL] at hA1 h1
      rw [eM] at hA2 h2
      rw [List.length_append, List.length_cons] at h1 h2
      refine hX _ (br_f (by decide) ⟨vp_in_nI (by omega) (by omega), hY _ (br_t (nI_pos' (by omega)) ⟨vp_in_nI (by omega) (by omega), ?_, I⟩)⟩)
      rw [nI_clamp (by omega), nI_clamp (by omega), (ly_At_mid hA1).2, (ly_At_mid hA2).2]
    · rw [← hl]
      exact hX _ (br_t rfl (hY _ (br_f (by decide) ⟨rfl, I⟩)))
  · exact ly_isWord_n hn (br_t rfl (ly_fnone hM hn _ (br_f (by decide) ⟨rfl, I⟩)))
/-! places: wordAt and at -/
theorem ly_at_l {x : Int32} {N : Nat} {a b : Nat → Int32} {M : List (Nat × Int32)} (hM : ly_Rep M (nI N, a, b)) (hN : N ≤ 40) : ∀ (S : List (Nat × Int32)) (i : Nat), ly_Gd S → ly_At a b i S → i + S.length = N → (∃ q, q ∈ S ∧ nI (ly_ct (ly_K q.1) M) = x ∧ ∀ post : Int32 → Prop, post (nI q.1) → wY_at_2 post x (nI N) a b (S.length + 1) (nI i)) ∨ ((∀ q, q ∈ S → nI (ly_ct (ly_K q.1) M) ≠ x) ∧ ∀ post : Int32 → Prop, post (-1) → wY_at_2 post x (nI N) a b (S.length + 1) (nI i)) := by
  intro S
  induction S with
  | nil =>
    intro i _ _ hi
    have hi : i + 0 = N := hi
    exact Or.inr ⟨fun q hq => (nomatch hq), fun post p => br_t (nI_le (by omega) (by omega)) p⟩
  | cons q S ih =>
    intro i hG hA hi
    rw [List.length_cons] at hi
    have hst : ∀ post : Int32 → Prop, (nI (ly_ct (ly_K q.1) M) = x → post (nI q.1)) → (¬ nI (ly_ct (ly_K q.1) M) = x → wY_at_2 post x (nI N) a b (S.length + 1) (nI (i + 1))) → wY_at_2 post x (nI N) a b ((q :: S).length + 1) (nI i) := by
      intro post p1 p2
      refine br_f (nI_ge (by omega) (by omega)) (br_f (nI_ge (b := 40) (by omega) (by omega)) ⟨vp_in_nI (by omega) (by omega), ?_⟩)
      rw [nI_clamp (by omega), hA.1.1]
      exact ly_ahead hM (ly_Gd_c hG).1.1 (br_c (fun e => ⟨vp_in_nI (by omega) (by omega), p1 e⟩) (fun e => nm_r (nI_1 i) (p2 e)))
    by_cases e : nI (ly_ct (ly_K q.1) M) = x
    · exact Or.inl ⟨q, List.mem_cons_self .., e, fun post p => hst post (fun _ => p) (fun z => absurd e z)⟩
    · rcases ih (i + 1) (ly_Gd_c hG).2 hA.2 (by omega) with ⟨r, hr, er, h⟩ | ⟨hn, h⟩
      · exact Or.inl ⟨r, List.mem_cons_of_mem _ hr, er, fun post p => hst post (fun z => absurd z e) (fun _ => h post p)⟩
      · refine Or.inr ⟨fun r hr => ?_, fun post p => hst post (fun z => absurd z e) (fun _ => h post p)⟩
        rcases List.mem_cons.mp hr with rfl | hr
        · exact e
        · exact hn r hr
theorem ly_at {v : SY} {M : List (Nat × Int32)} (x : Int32) (hM : ly_Rep M v) : (∃ q, q ∈ M ∧ nI (ly_ct (ly_K q.1) M) = x ∧ ∀ post : Int32 → Prop, post (nI q.1) → wpY_at post v x) ∨ ((∀ q, q ∈ M → nI (ly_ct (ly_K q.1) M) ≠ x) ∧ ∀ post : Int32 → Prop, post (-1) → wpY_at post v x) := by
  obtain ⟨a, b, rfl, hA, hG, hl⟩ := id hM
  rcases ly_at_l (x := x) hM hl M 0 hG hA (by omega) with ⟨q, hq, e, h⟩ | ⟨hn, h⟩
  · exact Or.inl ⟨q, hq, e, fun post p => Exists.intro _ (h post p)⟩
  · exact Or.inr ⟨hn, fun post p => Exists.intro _ (h post p)⟩
theorem ly_nth : ∀ {L : List (Nat × Int32)} {j : Nat}, j < L.length → ∃ A q B, L = A ++ q :: B ∧ A.length = j := by
  intro L
  induction L with
  | nil => intro j h; exact absurd h (Nat.not_lt_zero _)
  | cons p L ih =>
    intro j h
    cases j with
    | zero => exact ⟨[], p, L, rfl, rfl⟩
    | succ j =>
      obtain ⟨A, q, B, e, hl⟩ := ih (j := j) (by rw [List.length_cons] at h; omega)
      exact ⟨p :: A, q, B, by rw [e]; rfl, by rw [List.length_cons, hl]⟩
theorem ly_atw {u : SX} {v : SY} {L M : List (Nat × Int32)} (x : Int32) (hL : ly_Rep L u) (hM : ly_Rep M v) (hP : L.Perm M) (hS : ly_Srt L) :
    (∃ w, ly_Word w ∧ (∀ (post : Int32 → Prop) (d : Int32), post (nI w) → wpX_wordAt post u x d) ∧ (∀ post : Int32 → Prop, post (nI w) → wpY_at post v x))
    ∨ ((∀ (post : Int32 → Prop) (d : Int32), post d → wpX_wordAt post u x d) ∧ (∀ post : Int32 → Prop, post (-1) → wpY_at post v x)) := by
  have hlen := (ly_len hL).2
  have hct : ∀ q, q ∈ M → ∃ A B, L = A ++ q :: B ∧ ly_ct (ly_K q.1) M = A.length := by
    intro q hq
    obtain ⟨A, B, e⟩ := List.append_of_mem (hP.mem_iff.mpr hq)
    refine ⟨A, B, e, ?_⟩
    rw [← ly_ct_perm hP, e]
    rw [e] at hS
    exact ly_ct_mid hS
  obtain ⟨a, b, rfl, hA, hG, _⟩ := hL
  rcases pk_ix x (n := L.length) (by omega) with hx | hx | ⟨j, hj, rfl⟩
  · right
    refine ⟨fun post d p => br_t hx p, ?_⟩
    rcases ly_at x hM with ⟨q, hq, e, h⟩ | ⟨hn, h⟩
    · obtain ⟨A, B, e1, e2⟩ := hct q hq
      rw [e1, List.length_append] at hlen
      rw [e2] at e
      rw [← e] at hx
      exact absurd hx (nI_pos (by omega))
    · exact h
  · right
    refine ⟨fun post d p => br_c (fun _ => p) (fun _ => br_t hx p), ?_⟩
    rcases ly_at x hM with ⟨q, hq, e, h⟩ | ⟨hn, h⟩
    · obtain ⟨A, B, e1, e2⟩ := hct q hq
      have hl2 : A.length < L.length := by rw [e1, List.length_append, List.length_cons]; omega
      rw [e2] at e
      rw [← e] at hx
      exact absurd hx (nI_ge hl2 (by omega))
    · exact h
  · left
    obtain ⟨A, q, B, e1, hl⟩ := ly_nth hj
    have hqL : q ∈ L := by rw [e1]; exact List.mem_append_right _ (List.mem_cons_self ..)
    refine ⟨q.1, hG q hqL, fun post d p => br_f (nI_pos (by omega)) (br_f (nI_ge hj (by omega)) ⟨vp_in_nI (by omega) (by omega), ?_⟩), ?_⟩
    · rw [nI_clamp (by omega), ← hl]
      rw [e1] at hA
      rw [(ly_At_mid hA).1]; exact p
    · rcases ly_at (nI j) hM with ⟨r, hr, e, h⟩ | ⟨hn, h⟩
      · obtain ⟨A', B', e2, e3⟩ := hct r hr
        have hl2 : A'.length < L.length := by rw [e2, List.length_append, List.length_cons]; omega
        rw [e3, nI_eq (by omega) (by omega)] at e
        have e4 := List.append_inj (e1.symm.trans e2) (by omega)
        have e5 : q = r := (List.cons.inj e4.2).1
        rw [e5]; exact h
      · exfalso
        refine hn q (hP.mem_iff.mp hqL) ?_
        rw [← ly_ct_perm hP, e1]
        rw [e1] at hS
        rw [ly_ct_mid hS, hl]
theorem i_vc_select {k : Nat} {u : SX} {v : SY} (I : i_Rel k u v) (hk : k + 4 ≤ 2048) (v1 : Int32) : wpX_select (fun r => wpY_select (fun r' => r' = r ∧ i_Rel (k + 4) u v) v v1) u v1 := by
  obtain ⟨L, M, hL, hM, hP, hS⟩ := id I
  obtain ⟨h, a, b⟩ := u
  obtain ⟨c, a', b'⟩ := v
  unfold wpX_select wpY_select; dsimp only
  rcases ly_atw v1 hL hM hP hS with ⟨w, hw, hX, hY⟩ | ⟨hX, hY⟩
  · exact hX _ _ (hY _ ⟨rfl, I⟩)
  · exact hX _ _ (hY _ ⟨rfl, I⟩)
theorem i_vc_first {k : Nat} {u : SX} {v : SY} (I : i_Rel k u v) (hk : k + 4 ≤ 2048) : wpX_first (fun r => wpY_first (fun r' => r' = r ∧ i_Rel (k + 4) u v) v) u := by
  obtain ⟨L, M, hL, hM, hP, hS⟩ := id I
  obtain ⟨h, a, b⟩ := u
  obtain ⟨c, a', b'⟩ := v
  unfold wpX_first wpY_first; dsimp only
  rcases ly_atw 0 hL hM hP hS with ⟨w, hw, hX, hY⟩ | ⟨hX, hY⟩
  · exact hX _ _ (hY _ ⟨rfl, I⟩)
  · exact hX _ _ (hY _ ⟨rfl, I⟩)
theorem i_vc_last {k : Nat} {u : SX} {v : SY} (I : i_Rel k u v) (hk : k + 4 ≤ 2048) : wpX_last (fun r => wpY_last (fun r' => r' = r ∧ i_Rel (k + 4) u v) v) u := by
  obtain ⟨L, M, hL, hM, hP, hS⟩ := id I
  obtain ⟨h, a, b⟩ := u
  obtain ⟨c, a', b'⟩ := v
  have e : c = h := (ly_len hM).1.trans ((congrArg nI hP.length_eq.symm).trans (ly_len hL).1.symm)
  subst e
  unfold wpX_last wpY_last; dsimp only
  rcases ly_atw (c - 1) hL hM hP hS with ⟨w, hw, hX, hY⟩ | ⟨hX, hY⟩
  · exact hX _ _ (hY _ ⟨rfl, I⟩)
  · exact hX _ _ (hY _ ⟨rfl, I⟩)
theorem i_vc_previous {k : Nat} {u : SX} {v : SY} (I : i_Rel k u v) (hk : k + 4 ≤ 2048) (v1 : Int32) : wpX_previous (fun r => wpY_previous (fun r' => r' = r ∧ i_Rel (k + 4) u v) v v1) u v1 := by
  obtain ⟨L, M, hL, hM, hP, hS⟩ := id I
  obtain ⟨h, a, b⟩ := u
  obtain ⟨c, a', b'⟩ := v
  unfold wpX_previous wpY_previous; dsimp only
  rcases ly_csW v1 with ⟨w, hw, rfl⟩ | hn
  · refine ly_isWord_y hw (br_f (by decide) (ly_place hL hw.1 ?_))
    rcases ly_atw (nI (ly_ct (ly_K w) L) - 1) hL hM hP hS with ⟨q, hq, hX, hY⟩ | ⟨hX, hY⟩
    · have := ly_word_ge hq
      refine hX _ _ (ly_badWord_y hw (br_t rfl (ly_ahead hM hw.1 ?_)))
      rw [← ly_ct_perm hP]
      exact hY _ (br_t (nI_pos' (by omega)) ⟨rfl, I⟩)
    · refine hX _ _ (ly_badWord_y hw (br_t rfl (ly_ahead hM hw.1 ?_)))
      rw [← ly_ct_perm hP]
      exact hY _ (br_f (by decide) ⟨rfl, I⟩)
  · exact ly_isWord_n hn (br_t rfl (ly_badWord_n hn (br_f (by decide) ⟨rfl, I⟩)))
theorem i_vc_next {k : Nat} {u : SX} {v : SY} (I : i_Rel k u v) (hk : k + 4 ≤ 2048) (v1 : Int32) : wpX_next (fun r => wpY_next (fun r' => r' = r ∧ i_Rel (k + 4) u v) v v1) u v1 := by
  obtain ⟨L, M, hL, hM, hP, hS⟩ := id I
  obtain ⟨h, a, b⟩ := u
  obtain ⟨c, a', b'⟩ := v
  unfold wpX_next wpY_next; dsimp only
  rcases ly_csW v1 with ⟨w, hw, rfl⟩ | hn
  · refine ly_isWord_y hw (br_f (by decide) (ly_place hL hw.1 ?_))
    have tail : ∀ x : Int32, (∃ r, (∀ post : Int32 → Prop, post r → wX_next_27 post x h a b) ∧ (∀ post : Int32 → Prop, post r → wY_next_27 post x c a' b')) := by
      intro x
      unfold wX_next_27 wY_next_27
      rcases ly_atw x hL hM hP hS with ⟨q, hq, hX, hY⟩ | ⟨hX, hY⟩
      · have := ly_word_ge hq
        exact ⟨nI q, fun post p => hX _ _ p, fun post p => hY _ (br_t (nI_pos' (by omega)) p)⟩
      · exact ⟨-2, fun post p => hX _ _ p, fun post p => hY _ (br_f (by decide) p)⟩
    rcases ly_look hL hM hP hS hw with ⟨A, x, B, C, D, eL, eM, hl, hX, hY⟩ | ⟨A, B, eL, hl, hA, hB, hX, hY⟩
    · rw [← hl]
      have h2 := (ly_len hM).2
      rw [eM, List.length_append] at h2
      obtain ⟨r, tX, tY⟩ := tail (nI A.length + 1)
      refine hX _ (br_f (by decide) (nm_e (tX _ (ly_badWord_y hw (br_t rfl (ly_ahead hM hw.1 (hY _ (br_f (nI_pos (by omega)) (nm_e ?_)))))))))
      rw [← ly_ct_perm hP, ← hl]
      exact tY _ ⟨rfl, I⟩
    · rw [← hl]
      obtain ⟨r, tX, tY⟩ := tail (nI A.length)
      refine hX _ (br_t rfl (tX _ (ly_badWord_y hw (br_t rfl (ly_ahead hM hw.1 (hY _ (br_t (by decide) ?_)))))))
      rw [← ly_ct_perm hP, ← hl]
      exact tY _ ⟨rfl, I⟩
  · exact ly_isWord_n hn (br_t rfl (ly_badWord_n hn (br_f (by decide) ⟨rfl, I⟩)))
