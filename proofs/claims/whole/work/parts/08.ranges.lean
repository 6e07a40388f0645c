def ly_fl (r : Nat) (S : List (Nat × Int32)) : List (Nat × Int32) := S.filter (fun p => ly_bg r p.1)
def ly_fn (r : Nat) (S : List (Nat × Int32)) : List (Nat × Int32) := S.filter (fun p => !ly_bg r p.1)
def ly_sv : List (Nat × Int32) → Int32
  | [] => 0
  | p :: S => p.2 + ly_sv S
theorem ly_fl_y {r : Nat} {p : Nat × Int32} {S : List (Nat × Int32)} (h : ly_bg r p.1 = true) : ly_fl r (p :: S) = p :: ly_fl r S := List.filter_cons_of_pos h
theorem ly_fl_n {r : Nat} {p : Nat × Int32} {S : List (Nat × Int32)} (h : ¬ ly_bg r p.1 = true) : ly_fl r (p :: S) = ly_fl r S := List.filter_cons_of_neg h
theorem ly_bgN {r w : Nat} (h : ¬ ly_bg r w = true) : (!ly_bg r w) = true := by
  cases e : ly_bg r w
  · rfl
  · exact absurd e h
theorem ly_fl_split {r : Nat} {A R B : List (Nat × Int32)} (hA : ∀ p, p ∈ A → ¬ ly_bg r p.1 = true) (hR : ∀ p, p ∈ R → ly_bg r p.1 = true) (hB : ∀ p, p ∈ B → ¬ ly_bg r p.1 = true) : ly_fl r (A ++ (R ++ B)) = R ∧ ly_fn r (A ++ (R ++ B)) = A ++ B := by
  unfold ly_fl ly_fn
  have a1 : A.filter (fun p => ly_bg r p.1) = [] := List.filter_eq_nil_iff.mpr hA
  have b1 : B.filter (fun p => ly_bg r p.1) = [] := List.filter_eq_nil_iff.mpr hB
  have r1 : R.filter (fun p => ly_bg r p.1) = R := List.filter_eq_self.mpr hR
  have a2 : A.filter (fun p => !ly_bg r p.1) = A := List.filter_eq_self.mpr (fun p hp => ly_bgN (hA p hp))
  have b2 : B.filter (fun p => !ly_bg r p.1) = B := List.filter_eq_self.mpr (fun p hp => ly_bgN (hB p hp))
  have r2 : R.filter (fun p => !ly_bg r p.1) = [] := List.filter_eq_nil_iff.mpr (fun p hp => by rw [hR p hp]; decide)
  rw [List.filter_append, List.filter_append, List.filter_append, List.filter_append, a1, b1, r1, a2, b2, r2]
  exact ⟨by rw [List.append_nil, List.nil_append], rfl⟩
theorem ly_sv_perm {A B : List (Nat × Int32)} (h : A.Perm B) : ly_sv A = ly_sv B := by
  induction h with
  | nil => rfl
  | cons p _ ih => show _ + _ = _ + _; rw [ih]
  | swap p q S =>
    show q.2 + (p.2 + ly_sv S) = p.2 + (q.2 + ly_sv S)
    rw [← Int32.add_assoc, Int32.add_comm q.2 p.2, Int32.add_assoc]
  | trans _ _ h1 h2 => exact h1.trans h2
theorem ly_end_l {post : Int32 → Prop} {r N : Nat} {a b : Nat → Int32} {B : List (Nat × Int32)} (hr : ly_Row r) (hN : N ≤ 40) (hB : ∀ p, p ∈ B → ¬ ly_bg r p.1 = true) : ∀ (R : List (Nat × Int32)) (i : Nat), ly_Gd (R ++ B) → ly_At a b i (R ++ B) → i + (R ++ B).length = N → (∀ p, p ∈ R → ly_bg r p.1 = true) → post (nI (i + R.length)) → wX_endOfRange_5 post (nI r) (nI N) a b (R.length + 1) (nI i) (nI i) := by
  intro R
  induction R with
  | nil =>
    intro i hG hA hi _ p
    rw [List.nil_append] at hi hA hG
    cases B with
    | nil =>
      have hi : i + 0 = N := hi
      exact br_t (nI_le (by omega) (by omega)) p
    | cons q B =>
      rw [List.length_cons] at hi
      refine br_f (nI_ge (by omega) (by omega)) ⟨vp_in_nI (by omega) (by omega), ?_⟩
      rw [nI_clamp (by omega), hA.1.1]
      exact ly_isBeg hr (ly_Gd_c hG).1.1 (fun z => absurd z (hB q (List.mem_cons_self ..))) (fun _ => br_t rfl p)
  | cons q R ih =>
    intro i hG hA hi hR p
    rw [List.cons_append] at hi hA hG
    rw [List.length_cons] at hi p
    refine br_f (nI_ge (by omega) (by omega)) ⟨vp_in_nI (by omega) (by omega), ?_⟩
    rw [nI_clamp (by omega), hA.1.1]
    refine ly_isBeg hr (ly_Gd_c hG).1.1 (fun _ => br_f (by decide) (nm_r (nI_1 i) (nm_r (nI_1 i) (ih (i + 1) (ly_Gd_c hG).2 hA.2 (by omega) (fun t ht => hR t (List.mem_cons_of_mem _ ht)) ?_)))) (fun z => absurd (hR q (List.mem_cons_self ..)) z)
    rw [show i + 1 + R.length = i + (R.length + 1) from by omega]; exact p
theorem ly_range {u : SX} {L : List (Nat × Int32)} {r : Nat} (hL : ly_Rep L u) (hS : ly_Srt L) (hr : ly_Row r) : ∃ A R B, L = A ++ (R ++ B) ∧ A.length = ly_ct (ly_K r) L ∧ (∀ p, p ∈ A → ¬ ly_bg r p.1 = true) ∧ (∀ p, p ∈ R → ly_bg r p.1 = true) ∧ (∀ p, p ∈ B → ¬ ly_bg r p.1 = true) ∧ ∀ post : Int32 → Prop, post (nI (A.length + R.length)) → wpX_endOfRange post u (nI r) (nI A.length) := by
  obtain ⟨A, T, e, hl, hA, hT⟩ := ly_split (key := ly_K r) hS
  subst e
  have hS2 : ly_Srt T := (List.pairwise_append.mp hS).2.1
  obtain ⟨R, B, e, _, hR, hB⟩ := ly_split (key := ly_E r) hS2
  subst e
  have hG := ly_gd hL
  have hB' : ∀ p, p ∈ B → ¬ ly_bg r p.1 = true := fun p hp z => by
    have h1 := (ly_bg_K hr (hG p (List.mem_append_right _ (List.mem_append_right _ hp))).1).mp z
    have := hB p hp
    omega
  have hR' : ∀ p, p ∈ R → ly_bg r p.1 = true := fun p hp => (ly_bg_K hr (hG p (List.mem_append_right _ (List.mem_append_left _ hp))).1).mpr ⟨hT p (List.mem_append_left _ hp), hR p hp⟩
  refine ⟨A, R, B, rfl, hl, fun p hp z => ?_, hR', hB', fun post q => ?_⟩
  · have h1 := (ly_bg_K hr (hG p (List.mem_append_left _ hp)).1).mp z
    have := hA p hp
    omega
  · obtain ⟨a, b, rfl, hAt, _, hlen⟩ := hL
    have hAt2 := (ly_At_app.mp hAt).2
    rw [Nat.zero_add] at hAt2
    exact Exists.intro _ (ly_end_l hr hlen hB' R A.length (fun p hp => hG p (List.mem_append_right _ hp)) hAt2 (List.length_append ..).symm hR' q)
/-! count and sum -/
theorem ly_count_l {post : Int32 → Prop} {r N : Nat} {a b : Nat → Int32} (hr : ly_Row r) (hN : N ≤ 40) : ∀ (S : List (Nat × Int32)) (i c : Nat), ly_Gd S → ly_At a b i S → i + S.length = N → post (nI (c + (ly_fl r S).length)) → wY_count_14 post (nI r) (nI N) a b (S.length + 1) (nI c) (nI i) := by
  intro S
  induction S with
  | nil =>
    intro i c _ _ hi p
    have hi : i + 0 = N := hi
    exact br_t (nI_le (by omega) (by omega)) p
  | cons q S ih =>
    intro i c hG hA hi p
    rw [List.length_cons] at hi
    refine br_f (nI_ge (by omega) (by omega)) (br_f (nI_ge (b := 40) (by omega) (by omega)) ⟨vp_in_nI (by omega) (by omega), ?_⟩)
    rw [nI_clamp (by omega), hA.1.1]
    refine ly_begins hr (ly_Gd_c hG).1.1 (fun y => br_f (by decide) (nm_r (nI_1 c) (nm_r (nI_1 i) (ih (i + 1) (c + 1) (ly_Gd_c hG).2 hA.2 (by omega) ?_)))) (fun y => br_t rfl (nm_r (nI_1 i) (ih (i + 1) c (ly_Gd_c hG).2 hA.2 (by omega) ?_)))
    · rw [ly_fl_y y, List.length_cons] at p
      rw [show c + 1 + (ly_fl r S).length = c + ((ly_fl r S).length + 1) from by omega]; exact p
    · rw [ly_fl_n y] at p; exact p
theorem i_vc_count {k : Nat} {u : SX} {v : SY} (I : i_Rel k u v) (hk : k + 4 ≤ 2048) (v1 : Int32) : wpX_count (fun r => wpY_count (fun r' => r' = r ∧ i_Rel (k + 4) u v) v v1) u v1 := by
  obtain ⟨L, M, hL, hM, hP, hS⟩ := id I
  obtain ⟨h, a, b⟩ := u
  obtain ⟨c, a', b'⟩ := v
  unfold wpX_count wpY_count; dsimp only
  rcases ly_csR v1 with ⟨w, hw, rfl⟩ | hn
  · refine ly_isRow_y hw (br_f (by decide) (ly_place hL hw ?_))
    obtain ⟨A, R, B, e, hl, hA, hR, hB, hX⟩ := ly_range hL hS hw
    rw [← hl]
    refine hX _ (ly_badRow_y hw (br_t rfl ?_))
    obtain ⟨a2, b2, e2, hAt, hG, hlen⟩ := id hM
    cases e2
    refine Exists.intro _ (ly_count_l hw hlen M 0 0 hG hAt (by omega) ⟨?_, I⟩)
    have h1 := (hP.filter (fun p => ly_bg w p.1)).length_eq
    have h2 := (ly_fl_split hA hR hB).1
    unfold ly_fl at h2 ⊢
    rw [← h1, e, h2, pk_sub (by omega)]
    exact congrArg nI (by omega)
  · exact ly_isRow_n hn (br_t rfl (ly_badRow_n hn (br_f (by decide) ⟨rfl, I⟩)))
theorem ly_sumY_l {post : Int32 → Prop} {r N : Nat} {a b : Nat → Int32} (hr : ly_Row r) (hN : N ≤ 40) : ∀ (S : List (Nat × Int32)) (i : Nat) (c : Int32), ly_Gd S → ly_At a b i S → i + S.length = N → post (c + ly_sv (ly_fl r S)) → wY_sum_14 post (nI r) (nI N) a b (S.length + 1) c (nI i) := by
  intro S
  induction S with
  | nil =>
    intro i c _ _ hi p
    have hi : i + 0 = N := hi
    refine br_t (nI_le (by omega) (by omega)) ?_
    have p : post (c + 0) := p
    rw [Int32.add_zero] at p; exact p
  | cons q S ih =>
    intro i c hG hA hi p
    rw [List.length_cons] at hi
    refine br_f (nI_ge (by omega) (by omega)) (br_f (nI_ge (b := 40) (by omega) (by omega)) ⟨vp_in_nI (by omega) (by omega), ?_⟩)
    rw [nI_clamp (by omega), hA.1.1, hA.1.2]
    refine ly_begins hr (ly_Gd_c hG).1.1 (fun y => br_f (by decide) ⟨vp_in_nI (by omega) (by omega), nm_e (nm_r (nI_1 i) (ih (i + 1) _ (ly_Gd_c hG).2 hA.2 (by omega) ?_))⟩) (fun y => br_t rfl (nm_r (nI_1 i) (ih (i + 1) c (ly_Gd_c hG).2 hA.2 (by omega) ?_)))
    · rw [ly_fl_y y] at p
      rw [Int32.add_assoc]; exact p
    · rw [ly_fl_n y] at p; exact p
theorem ly_sumX_l {post : Int32 → Prop} {N : Nat} {h : Int32} {a b : Nat → Int32} (hN : N ≤ 40) : ∀ (S : List (Nat × Int32)) (i : Nat) (c : Int32), ly_At a b i S → i + S.length = N → post (c + ly_sv S) → wX_sum_28 post (nI N) h a b (S.length + 1) c (nI i) := by
  intro S
  induction S with
  | nil =>
    intro i c _ hi p
    have hi : i + 0 = N := hi
    refine br_t (nI_le (by omega) (by omega)) ?_
    have p : post (c + 0) := p
    rw [Int32.add_zero] at p; exact p
  | cons q S ih =>
    intro i c hA hi p
    rw [List.length_cons] at hi
    refine br_f (nI_ge (by omega) (by omega)) ⟨vp_in_nI (by omega) (by omega), ?_⟩
    rw [nI_clamp (by omega), hA.1.2]
    refine nm_e (nm_r (nI_1 i) (ih (i + 1) _ hA.2 (by omega) ?_))
    rw [Int32.add_assoc]; exact p
theorem i_vc_sum {k : Nat} {u : SX} {v : SY} (I : i_Rel k u v) (hk : k + 4 ≤ 2048) (v1 : Int32) : wpX_sum (fun r => wpY_sum (fun r' => r' = r ∧ i_Rel (k + 4) u v) v v1) u v1 := by
  obtain ⟨L, M, hL, hM, hP, hS⟩ := id I
  obtain ⟨h, a, b⟩ := u
  obtain ⟨c, a', b'⟩ := v
  unfold wpX_sum wpY_sum; dsimp only
  rcases ly_csR v1 with ⟨w, hw, rfl⟩ | hn
  · refine ly_isRow_y hw (br_f (by decide) (ly_place hL hw ?_))
    obtain ⟨A, R, B, e, hl, hA, hR, hB, hX⟩ := ly_range hL hS hw
    rw [← hl]
    refine hX _ ?_
    obtain ⟨a1, b1, e1, hAt1, _, hlen1⟩ := id hL
    cases e1
    rw [e] at hAt1 hlen1
    rw [List.length_append, List.length_append] at hlen1
    have hAR := (ly_At_app.mp (ly_At_app.mp hAt1).2).1
    rw [Nat.zero_add] at hAR
    refine Exists.intro _ (ly_sumX_l (by omega) R A.length 0 hAR rfl (ly_badRow_y hw (br_t rfl ?_)))
    obtain ⟨a2, b2, e2, hAt, hG, hlen⟩ := id hM
    cases e2
    refine Exists.intro _ (ly_sumY_l hw hlen M 0 0 hG hAt (by omega) ⟨?_, I⟩)
    have h1 := ly_sv_perm (hP.filter (fun p => ly_bg w p.1))
    have h2 := (ly_fl_split hA hR hB).1
    unfold ly_fl at h2 ⊢
    rw [← h1, e, h2]
  · exact ly_isRow_n hn (br_t rfl (ly_badRow_n hn (br_f (by decide) ⟨rfl, I⟩)))
/-! clear -/
theorem ly_last : ∀ {S : List (Nat × Int32)} {j : Nat}, S.length = j + 1 → ∃ S' q, S = S' ++ [q] ∧ S'.length = j := by
  intro S j h
  obtain ⟨A, q, B, e, hl⟩ := ly_nth (L := S) (j := j) (by omega)
  have hB : B = [] := by
    rw [e, List.length_append, List.length_cons] at h
    exact List.length_eq_zero_iff.mp (by omega)
  subst hB
  exact ⟨A, q, e, hl⟩
theorem ly_f1 {f : Nat × Int32 → Bool} {q : Nat × Int32} (h : f q = true) : [q].filter f = [q] := by rw [List.filter_cons_of_pos h, List.filter_nil]
theorem ly_f0 {f : Nat × Int32 → Bool} {q : Nat × Int32} (h : ¬ f q = true) : [q].filter f = [] := by rw [List.filter_cons_of_neg h, List.filter_nil]
theorem ly_clr_l {post : Int32 → SY → Prop} {r : Nat} (hr : ly_Row r) : ∀ (j c : Nat) (S T : List (Nat × Int32)) (f : Int32) (a b : Nat → Int32), j ≤ 40 → S.length ≤ j → (S.length = j ∨ T = []) → ly_Rep (S ++ T) (f, a, b) → (∀ v', ly_Rep (ly_fn r S ++ T) v' → post (nI (c + (ly_fl r S).length)) v') → wY_clear_15 post (nI r) (j + 1) (nI c) (nI j + (-1)) f a b := by
  intro j
  induction j with
  | zero =>
    intro c S T f a b _ hS _ hR p
    obtain rfl : S = [] := List.length_eq_zero_iff.mp (by omega)
    exact br_t (by decide) (p _ hR)
  | succ j ih =>
    intro c S T f a b hj hS hT hR p
    have hlen := ly_len hR
    have ef : f = nI (S ++ T).length := hlen.1
    rw [pk_m1]
    refine br_f (nI_pos (by omega)) ?_
    by_cases hc : (S ++ T).length ≤ j
    · refine br_t (by rw [ef]; exact nI_le hc (by omega)) (nm_e (ih c S T f a b (by omega) ?_ (Or.inr ?_) hR p))
      · rw [List.length_append] at hc; omega
      · rw [List.length_append] at hc
        rcases hT with z | z
        · omega
        · exact z
    · refine br_f (by rw [ef]; exact nI_ge (by omega) (by have := hlen.2; omega)) ?_
      have hSj : S.length = j + 1 := by
        rcases hT with z | z
        · exact z
        · subst z; rw [List.append_nil] at hc; omega
      obtain ⟨S', q, e, hl⟩ := ly_last hSj
      subst e
      have hR2 : ly_Rep (S' ++ q :: T) (f, a, b) := by rw [List.append_assoc] at hR; exact hR
      have hq : ly_Word q.1 := ly_gd hR2 q (List.mem_append_right _ (List.mem_cons_self ..))
      have haq : a j = nI q.1 := by
        obtain ⟨a1, b1, e1, hAt, _, _⟩ := id hR2
        cases e1
        rw [← hl]; exact (ly_At_mid hAt).1
      refine ⟨vp_in_nI (by omega) (by omega), ?_⟩
      rw [nI_clamp (by omega), haq]
      refine ly_begins hr hq.1 (fun y => br_f (by decide) ?_) (fun y => br_t rfl (nm_e (ih c S' (q :: T) f a b (by omega) (by omega) (Or.inl hl) hR2 ?_)))
      · obtain ⟨v1, hv, hV⟩ := ly_tk hR2
        obtain ⟨f1, a1, b1⟩ := v1
        rw [← hl]
        refine hV _ ?_
        dsimp only
        refine nm_r (nI_1 c) (nm_e ?_)
        rw [hl]
        refine ih (c + 1) S' T f1 a1 b1 (by omega) (by omega) (Or.inl hl) hv (fun v' hv' => ?_)
        have e1 : ly_fn r (S' ++ [q]) = ly_fn r S' := by
          unfold ly_fn; rw [List.filter_append, ly_f0 (f := fun p => !ly_bg r p.1) (by rw [y]; decide), List.append_nil]
        have e2 : ly_fl r (S' ++ [q]) = ly_fl r S' ++ [q] := by
          unfold ly_fl; rw [List.filter_append, ly_f1 (f := fun p => ly_bg r p.1) y]
        have p2 := p v' (by rw [e1]; exact hv')
        rw [e2, List.length_append] at p2
        rw [show c + 1 + (ly_fl r S').length = c + ((ly_fl r S').length + [q].length) from by rw [List.length_cons, List.length_nil]; omega]
        exact p2
      · intro v' hv'
        have e1 : ly_fn r (S' ++ [q]) = ly_fn r S' ++ [q] := by
          unfold ly_fn; rw [List.filter_append, ly_f1 (f := fun p => !ly_bg r p.1) (ly_bgN y)]
        have e2 : ly_fl r (S' ++ [q]) = ly_fl r S' := by
          unfold ly_fl; rw [List.filter_append, ly_f0 (f := fun p => ly_bg r p.1) y, List.append_nil]
        have p2 := p v' (by rw [e1, List.append_assoc]; exact hv')
        rw [e2] at p2
        exact p2
theorem i_vc_clear {k : Nat} {u : SX} {v : SY} (I : i_Rel k u v) (hk : k + 4 ≤ 2048) (v1 : Int32) : wpX_clear (fun r u' => wpY_clear (fun r' v' => r' = r ∧ i_Rel (k + 4) u' v') v v1) u v1 := by
  obtain ⟨L, M, hL, hM, hP, hS⟩ := id I
  obtain ⟨h, a, b⟩ := u
  obtain ⟨c, a', b'⟩ := v
  unfold wpX_clear wpY_clear; dsimp only
  rcases ly_csR v1 with ⟨w, hw, rfl⟩ | hn
  · refine ly_isRow_y hw (br_f (by decide) (ly_place hL hw ?_))
    obtain ⟨A, R, B, e, hl, hA, hR, hB, hX⟩ := ly_range hL hS hw
    rw [← hl]
    subst e
    obtain ⟨u', hu, hU⟩ := ly_cut hL
    obtain ⟨f1, a1, b1⟩ := u'
    refine hX _ (hU _ ?_)
    dsimp only
    have hlen := (ly_len hM).2
    refine ly_badRow_y hw (br_t rfl (Exists.intro 41 (ly_clr_l hw 40 0 M [] c a' b' (by omega) hlen (Or.inr rfl) (by rw [List.append_nil]; exact hM) (fun v' hv' => ?_))))
    rw [List.append_nil] at hv'
    have h1 := (hP.filter (fun p => ly_bg w p.1)).length_eq
    have h3 := hP.filter (fun p => !ly_bg w p.1)
    have h2 := ly_fl_split hA hR hB
    have h4 : ly_Srt (ly_fn w (A ++ (R ++ B))) := List.Pairwise.filter _ hS
    rw [h2.2] at h4
    refine ⟨?_, _, _, hu, hv', ?_, h4⟩
    · unfold ly_fl at h2 ⊢
      rw [← h1, h2.1, pk_sub (by omega)]
      exact congrArg nI (by omega)
    · rw [← h2.2]; exact h3
  · exact ly_isRow_n hn (br_t rfl (ly_badRow_n hn (br_f (by decide) ⟨rfl, I⟩)))
