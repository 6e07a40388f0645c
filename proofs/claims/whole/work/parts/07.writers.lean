/-! the shifts -/
theorem ly_ins_l {p h : Nat} {w x : Int32} : ∀ (d : Nat) (a b : Nat → Int32), p + d < 40 → ∃ a' b' : Nat → Int32, (∀ j, j < p → a' j = a j ∧ b' j = b j) ∧ (a' p = w ∧ b' p = x) ∧ (∀ j, p ≤ j → j < p + d → a' (j + 1) = a j ∧ b' (j + 1) = b j) ∧ (∀ j, p + d < j → a' j = a j ∧ b' j = b j) ∧ ∀ post : SX → Prop, post (nI h + 1, a', b') → wX_insertAt_6 post (nI p) w x (nI h) (d + 1) (nI (p + d)) a b := by
  intro d
  induction d with
  | zero =>
    intro a b hp
    refine ⟨upd a p w, upd b p x, fun j hj => ⟨pk_un (by omega), pk_un (by omega)⟩, ⟨pk_us, pk_us⟩, fun j h1 h2 => by omega, fun j hj => ⟨pk_un (by omega), pk_un (by omega)⟩, fun post q => ?_⟩
    refine br_t (nI_le (by omega) (by omega)) ?_
    rw [nI_clamp (by omega)]
    exact ⟨vp_in_nI (by omega) (by omega), nm_e ⟨vp_in_nI (by omega) (by omega), nm_e (nm_e q)⟩⟩
  | succ d ih =>
    intro a b hp
    obtain ⟨a', b', h1, h2, h3, h4, h5⟩ := ih (upd a (p + d + 1) (a (p + d))) (upd b (p + d + 1) (b (p + d))) (by omega)
    refine ⟨a', b', fun j hj => ?_, h2, fun j hj hj2 => ?_, fun j hj => ?_, fun post q => ?_⟩
    · have := h1 j hj
      rw [pk_un (by omega), pk_un (by omega)] at this; exact this
    · rcases Nat.lt_or_ge j (p + d) with z | z
      · have := h3 j hj z
        rw [pk_un (by omega), pk_un (by omega)] at this; exact this
      · obtain rfl : j = p + d := by omega
        have := h4 (p + d + 1) (by omega)
        rw [pk_us, pk_us] at this; exact this
    · have := h4 j (by omega)
      rw [pk_un (by omega), pk_un (by omega)] at this; exact this
    · have e1 : nI (p + (d + 1)) - 1 = nI (p + d) := nI_pred (p + d)
      have e2 : nI (p + (d + 1)) + (-1) = nI (p + d) := pk_m1 (p + d)
      refine br_f (nI_ge (by omega) (by omega)) ?_
      rw [e1, e2, nI_clamp (n := p + d) (by omega), nI_clamp (n := p + (d + 1)) (by omega)]
      exact ⟨vp_in_nI (by omega) (by omega), vp_in_nI (by omega) (by omega), nm_e ⟨vp_in_nI (by omega) (by omega), vp_in_nI (by omega) (by omega), nm_e (nm_e (h5 post q))⟩⟩
theorem ly_ins {u : SX} {A B : List (Nat × Int32)} {w : Nat} (x : Int32) (hR : ly_Rep (A ++ B) u) (hw : ly_Word w) (hl : (A ++ B).length < 40) : ∃ u' : SX, ly_Rep (A ++ (w, x) :: B) u' ∧ ∀ post : SX → Prop, post u' → wpX_insertAt post u (nI A.length) (nI w) x := by
  obtain ⟨a, b, rfl, hA, hG, _⟩ := hR
  have hl2 := hl
  rw [List.length_append] at hl2
  have hAB := ly_At_app.mp hA
  obtain ⟨a', b', h1, h2, h3, h4, h5⟩ := ly_ins_l (p := A.length) (h := (A ++ B).length) (w := nI w) (x := x) B.length a b hl2
  refine ⟨(nI (A ++ B).length + 1, a', b'), ⟨a', b', ?_, ?_, ?_, ?_⟩, fun post q => ?_⟩
  · rw [nI_1, List.length_append, List.length_append, List.length_cons, Nat.add_assoc]
  · refine ly_At_app.mpr ⟨ly_At_mv (i := 0) (fun j hj => ?_) hAB.1, ?_, ly_At_mv (i := 0 + A.length) (fun j hj => ?_) hAB.2⟩
    · have := h1 j hj; rw [Nat.zero_add]; exact this
    · rw [Nat.zero_add]; exact h2
    · have := h3 (A.length + j) (by omega) (by omega)
      rw [Nat.zero_add, show A.length + 1 + j = A.length + j + 1 from by omega]; exact this
  · intro p hp
    rcases List.mem_append.mp hp with z | z
    · exact hG p (List.mem_append_left _ z)
    · rcases List.mem_cons.mp z with rfl | z
      · exact hw
      · exact hG p (List.mem_append_right _ z)
  · rw [List.length_append, List.length_cons]; omega
  · have h6 := h5 post q
    rw [← List.length_append] at h6
    exact Exists.intro _ h6
theorem ly_cut_l {h : Nat} (hh : h ≤ 40) : ∀ (d s e : Nat) (a b : Nat → Int32), e + d = h → s ≤ e → ∃ a' b' : Nat → Int32, (∀ j, j < s → a' j = a j ∧ b' j = b j) ∧ (∀ j, j < d → a' (s + j) = a (e + j) ∧ b' (s + j) = b (e + j)) ∧ ∀ post : SX → Prop, post (nI (s + d), a', b') → wX_cutOut_5 post (nI h) (d + 1) (nI s) (nI e) a b := by
  intro d
  induction d with
  | zero =>
    intro s e a b he hs
    exact ⟨a, b, fun j _ => ⟨rfl, rfl⟩, fun j hj => absurd hj (Nat.not_lt_zero _), fun post q => br_t (nI_le (by omega) (by omega)) q⟩
  | succ d ih =>
    intro s e a b he hs
    obtain ⟨a', b', h1, h2, h3⟩ := ih (s + 1) (e + 1) (upd a s (a e)) (upd b s (b e)) (by omega) (by omega)
    refine ⟨a', b', fun j hj => ?_, fun j hj => ?_, fun post q => ?_⟩
    · have := h1 j (by omega)
      rw [pk_un (by omega), pk_un (by omega)] at this; exact this
    · cases j with
      | zero =>
        have := h1 s (by omega)
        rw [pk_us, pk_us] at this; exact this
      | succ j =>
        have := h2 j (by omega)
        rw [pk_un (by omega), pk_un (by omega), show s + 1 + j = s + (j + 1) from by omega, show e + 1 + j = e + (j + 1) from by omega] at this; exact this
    · refine br_f (nI_ge (by omega) (by omega)) ?_
      rw [nI_clamp (n := s) (by omega), nI_clamp (n := e) (by omega)]
      rw [show s + (d + 1) = s + 1 + d from by omega] at q
      exact ⟨vp_in_nI (by omega) (by omega), vp_in_nI (by omega) (by omega), nm_e ⟨vp_in_nI (by omega) (by omega), vp_in_nI (by omega) (by omega), nm_e (nm_r (nI_1 s) (nm_r (nI_1 e) (h3 post q)))⟩⟩
theorem ly_cut {u : SX} {A C B : List (Nat × Int32)} (hR : ly_Rep (A ++ (C ++ B)) u) : ∃ u' : SX, ly_Rep (A ++ B) u' ∧ ∀ post : SX → Prop, post u' → wpX_cutOut post u (nI A.length) (nI (A.length + C.length)) := by
  obtain ⟨a, b, rfl, hA, hG, hl⟩ := hR
  have hl2 := hl
  rw [List.length_append, List.length_append] at hl2
  have hAB := ly_At_app.mp hA
  have hCB := ly_At_app.mp hAB.2
  obtain ⟨a', b', h1, h2, h3⟩ := ly_cut_l (h := (A ++ (C ++ B)).length) hl B.length A.length (A.length + C.length) a b (by rw [List.length_append, List.length_append]; omega) (by omega)
  refine ⟨(nI (A.length + B.length), a', b'), ⟨a', b', ?_, ?_, ?_, ?_⟩, fun post q => Exists.intro _ (h3 post q)⟩
  · rw [List.length_append]
  · refine ly_At_app.mpr ⟨ly_At_mv (i := 0) (fun j hj => ?_) hAB.1, ly_At_mv (i := 0 + A.length + C.length) (fun j hj => ?_) hCB.2⟩
    · have := h1 j hj; rw [Nat.zero_add]; exact this
    · have := h2 j hj
      rw [Nat.zero_add]; exact this
  · intro p hp
    rcases List.mem_append.mp hp with z | z
    · exact hG p (List.mem_append_left _ z)
    · exact hG p (List.mem_append_right _ (List.mem_append_right _ z))
  · rw [List.length_append]; omega
theorem ly_tk_l {h : Nat} (hh : h < 40) : ∀ (d s : Nat) (a b : Nat → Int32), s + d = h → ∃ a' b' : Nat → Int32, (∀ j, j < s → a' j = a j ∧ b' j = b j) ∧ (∀ j, j < d → a' (s + j) = a (s + 1 + j) ∧ b' (s + j) = b (s + 1 + j)) ∧ ∀ post : SY → Prop, post (nI h, a', b') → wY_takeOut_2 post (nI (h + 1)) (d + 1) (nI s) a b := by
  have e1 : nI (h + 1) - 1 = nI h := nI_pred h
  intro d
  induction d with
  | zero =>
    intro s a b hs
    refine ⟨a, b, fun j _ => ⟨rfl, rfl⟩, fun j hj => absurd hj (Nat.not_lt_zero _), fun post q => br_t ?_ (nm_r e1 q)⟩
    rw [e1]; exact nI_le (by omega) (by omega)
  | succ d ih =>
    intro s a b hs
    obtain ⟨a', b', h1, h2, h3⟩ := ih (s + 1) (upd a s (a (s + 1))) (upd b s (b (s + 1))) (by omega)
    refine ⟨a', b', fun j hj => ?_, fun j hj => ?_, fun post q => ?_⟩
    · have := h1 j (by omega)
      rw [pk_un (by omega), pk_un (by omega)] at this; exact this
    · cases j with
      | zero =>
        have := h1 s (by omega)
        rw [pk_us, pk_us] at this; exact this
      | succ j =>
        have := h2 j (by omega)
        rw [pk_un (by omega), pk_un (by omega), show s + 1 + 1 + j = s + 1 + (j + 1) from by omega, show s + 1 + j = s + (j + 1) from by omega] at this; exact this
    · refine br_f (by rw [e1]; exact nI_ge (by omega) (by omega)) (br_f (nI_ge (b := 39) (by omega) (by omega)) ?_)
      rw [nI_1 s, nI_clamp (n := s) (by omega), nI_clamp (n := s + 1) (by omega)]
      exact ⟨vp_in_nI (by omega) (by omega), vp_in_nI (by omega) (by omega), nm_e ⟨vp_in_nI (by omega) (by omega), vp_in_nI (by omega) (by omega), nm_e (nm_e (h3 post q))⟩⟩
theorem ly_tk {v : SY} {A B : List (Nat × Int32)} {p : Nat × Int32} (hR : ly_Rep (A ++ p :: B) v) : ∃ v' : SY, ly_Rep (A ++ B) v' ∧ ∀ post : SY → Prop, post v' → wpY_takeOut post v (nI A.length) := by
  obtain ⟨a, b, rfl, hA, hG, hl⟩ := hR
  rw [List.length_append, List.length_cons] at hl
  have hAB := ly_At_app.mp hA
  obtain ⟨a', b', h1, h2, h3⟩ := ly_tk_l (h := A.length + B.length) (by omega) B.length A.length a b rfl
  refine ⟨(nI (A.length + B.length), a', b'), ⟨a', b', ?_, ?_, ?_, ?_⟩, fun post q => ?_⟩
  · rw [List.length_append]
  · refine ly_At_app.mpr ⟨ly_At_mv (i := 0) (fun j hj => ?_) hAB.1, ly_At_mv (i := 0 + A.length + 1) (fun j hj => ?_) hAB.2.2⟩
    · have := h1 j hj; rw [Nat.zero_add]; exact this
    · have := h2 j hj
      rw [Nat.zero_add]; exact this
  · intro p hp
    rcases List.mem_append.mp hp with z | z
    · exact hG p (List.mem_append_left _ z)
    · exact hG p (List.mem_append_right _ (List.mem_cons_of_mem _ z))
  · rw [List.length_append]; omega
  · have h6 := h3 post q
    rw [show A.length + B.length + 1 = (A ++ p :: B).length from by rw [List.length_append, List.length_cons]; omega] at h6
    exact Exists.intro _ h6
theorem ly_set {f : Int32} {a b : Nat → Int32} {A B : List (Nat × Int32)} {w : Nat} {x y : Int32} (hR : ly_Rep (A ++ (w, x) :: B) (f, a, b)) : ly_Rep (A ++ (w, y) :: B) (f, a, upd b A.length y) := by
  obtain ⟨a1, b1, e, hA, hG, hl⟩ := hR
  cases e
  have hAB := ly_At_app.mp hA
  refine ⟨a, upd b A.length y, ?_, ?_, ?_, ?_⟩
  · rw [List.length_append, List.length_append, List.length_cons, List.length_cons]
  · refine ly_At_app.mpr ⟨ly_At_mv (i := 0) (fun j hj => ⟨rfl, pk_un (by omega)⟩) hAB.1, ⟨hAB.2.1.1, by rw [Nat.zero_add]; exact pk_us⟩, ly_At_mv (i := 0 + A.length + 1) (fun j hj => ⟨rfl, pk_un (by omega)⟩) hAB.2.2⟩
  · intro p hp
    rcases List.mem_append.mp hp with z | z
    · exact hG p (List.mem_append_left _ z)
    · rcases List.mem_cons.mp z with rfl | z
      · exact hG (w, x) (List.mem_append_right _ (List.mem_cons_self ..))
      · exact hG p (List.mem_append_right _ (List.mem_cons_of_mem _ z))
  · rw [List.length_append, List.length_cons] at hl ⊢; exact hl
theorem ly_add {f : Int32} {a b : Nat → Int32} {M : List (Nat × Int32)} {w : Nat} {x : Int32} (hR : ly_Rep M (f, a, b)) (hw : ly_Word w) (hl : M.length < 40) : ly_Rep (M ++ [(w, x)]) (f + 1, upd a M.length (nI w), upd b M.length x) := by
  obtain ⟨a1, b1, e, hA, hG, _⟩ := hR
  cases e
  refine ⟨upd a M.length (nI w), upd b M.length x, ?_, ly_At_app.mpr ⟨ly_At_mv (i := 0) (fun j hj => ⟨pk_un (by omega), pk_un (by omega)⟩) hA, ?_, trivial⟩, ?_, ?_⟩
  · rw [nI_1, List.length_append]; rfl
  · rw [Nat.zero_add]; exact ⟨pk_us, pk_us⟩
  · intro p hp
    rcases List.mem_append.mp hp with z | z
    · exact hG p z
    · rcases List.mem_cons.mp z with rfl | z
      · exact hw
      · exact nomatch z
  · rw [List.length_append, List.length_cons, List.length_nil]; omega
/-! put, remove, sow -/
theorem ly_Srt_in {A B : List (Nat × Int32)} {q : Nat × Int32} (h : ly_Srt (A ++ B)) (hA : ∀ p, p ∈ A → ly_K p.1 < ly_K q.1) (hB : ∀ p, p ∈ B → ly_K q.1 < ly_K p.1) : ly_Srt (A ++ q :: B) := by
  have h' := List.pairwise_append.mp h
  refine List.pairwise_append.mpr ⟨h'.1, List.pairwise_cons.mpr ⟨hB, h'.2.1⟩, fun x hx y hy => ?_⟩
  rcases List.mem_cons.mp hy with rfl | hy
  · exact hA x hx
  · exact h'.2.2 x hx y hy
theorem ly_pm {A B C D : List (Nat × Int32)} {q : Nat × Int32} (h : (A ++ q :: B).Perm (C ++ q :: D)) : (A ++ B).Perm (C ++ D) :=
  List.Perm.cons_inv ((List.perm_middle.symm.trans h).trans List.perm_middle)
theorem ly_pm' {A B C D : List (Nat × Int32)} {q : Nat × Int32} (h : (A ++ B).Perm (C ++ D)) : (A ++ q :: B).Perm (C ++ q :: D) :=
  List.perm_middle.trans ((List.Perm.cons q h).trans List.perm_middle.symm)
theorem ly_put {u : SX} {v : SY} (hR : ly_R u v) (x1 x2 : Int32) : ∃ (r : Int32) (u' : SX) (v' : SY), ly_R u' v' ∧ (∀ post : Int32 → SX → Prop, post r u' → wpX_put post u x1 x2) ∧ (∀ post : Int32 → SY → Prop, post r v' → wpY_put post v x1 x2) := by
  obtain ⟨L, M, hL, hM, hP, hS⟩ := id hR
  obtain ⟨h, a, b⟩ := u
  obtain ⟨c, a', b'⟩ := v
  unfold wpX_put wpY_put; dsimp only
  rcases ly_csW x1 with ⟨w, hw, rfl⟩ | hn
  · have hlL := ly_len hL
    have hlM := ly_len hM
    have hlen := hP.length_eq
    rcases ly_look hL hM hP hS hw with ⟨A, x, B, C, D, eL, eM, hl, hX, hY⟩ | ⟨A, B, eL, hl, hA, hB, hX, hY⟩
    · subst eL eM
      have h1 := hlL.2
      have h2 := hlM.2
      rw [List.length_append, List.length_cons] at h1 h2
      refine ⟨0, (h, a, upd b A.length x2), (c, a', upd b' C.length x2), ⟨_, _, ly_set hL, ly_set hM, ly_pm' (ly_pm hP), ?_⟩, fun post p => ?_, fun post p => ?_⟩
      · have hm := ly_Srt_mid hS
        exact ly_Srt_in hm.2.2 hm.1 hm.2.1
      · refine ly_isWord_y hw (br_f (by decide) (ly_place hL hw.1 ?_))
        rw [← hl]
        refine hX _ (br_f (by decide) ⟨vp_in_nI (by omega) (by omega), ?_⟩)
        rw [nI_clamp (by omega)]; exact nm_e p
      · refine ly_badWord_y hw (br_t rfl (hY _ (br_f (nI_pos (by omega)) ⟨vp_in_nI (by omega) (by omega), ?_⟩)))
        rw [nI_clamp (by omega)]; exact nm_e p
    · by_cases hf : L.length < 40
      · subst eL
        obtain ⟨u', hu, hU⟩ := ly_ins x2 hL hw hf
        obtain ⟨f1, a1, b1⟩ := u'
        have e : h = nI (A ++ B).length := hlL.1
        have e' : c = nI M.length := hlM.1
        refine ⟨1, (f1, a1, b1), _, ⟨_, _, hu, ly_add (x := x2) hM hw (by omega), ?_, ly_Srt_in hS hA hB⟩, fun post p => ?_, fun post p => ?_⟩
        · exact ((List.perm_middle).trans (List.Perm.cons _ hP)).trans (by rw [List.append_cons, List.append_nil]; exact (List.perm_append_singleton _ _).symm)
        · refine ly_isWord_y hw (br_f (by decide) (ly_place hL hw.1 ?_))
          rw [← hl]
          refine hX _ (br_t rfl (br_t ?_ (hU _ p)))
          rw [e]; exact nI_lt (b := 40) hf (by omega)
        · refine ly_badWord_y hw (br_t rfl (hY _ (br_t (by decide) (br_t ?_ ?_))))
          · rw [e']; exact nI_le (b := 39) (by omega) (by omega)
          · have e2 : c.toNatClampNeg = M.length := by rw [e']; exact nI_clamp (by omega)
            have hin : vp_in c 40 := by rw [e']; exact vp_in_nI (by omega) (by omega)
            rw [e2]
            exact ⟨hin, nm_e ⟨hin, nm_e (nm_e p)⟩⟩
      · have e : h = nI L.length := hlL.1
        have e' : c = nI M.length := hlM.1
        refine ⟨-2, (h, a, b), (c, a', b'), hR, fun post p => ?_, fun post p => ?_⟩
        · refine ly_isWord_y hw (br_f (by decide) (ly_place hL hw.1 ?_))
          rw [← hl]
          refine hX _ (br_t rfl (br_f ?_ p))
          have := hlL.2
          rw [e]; exact nI_nlt (b := 40) (by omega) (by omega)
        · refine ly_badWord_y hw (br_t rfl (hY _ (br_t (by decide) (br_f ?_ p))))
          have := hlM.2
          rw [e']; exact nI_ge (a := 39) (by omega) (by omega)
  · exact ⟨-1, (h, a, b), (c, a', b'), hR, fun post p => ly_isWord_n hn (br_t rfl p), fun post p => ly_badWord_n hn (br_f (by decide) p)⟩
theorem i_vc_put {k : Nat} {u : SX} {v : SY} (I : i_Rel k u v) (hk : k + 4 ≤ 2048) (v1 : Int32) (v2 : Int32) : wpX_put (fun r u' => wpY_put (fun r' v' => r' = r ∧ i_Rel (k + 4) u' v') v v1 v2) u v1 v2 := by
  obtain ⟨r, u', v', hR, hX, hY⟩ := ly_put I v1 v2
  exact hX _ (hY _ ⟨rfl, hR⟩)
theorem i_vc_remove {k : Nat} {u : SX} {v : SY} (I : i_Rel k u v) (hk : k + 4 ≤ 2048) (v1 : Int32) : wpX_remove (fun r u' => wpY_remove (fun r' v' => r' = r ∧ i_Rel (k + 4) u' v') v v1) u v1 := by
  obtain ⟨L, M, hL, hM, hP, hS⟩ := id I
  obtain ⟨h, a, b⟩ := u
  obtain ⟨c, a', b'⟩ := v
  unfold wpX_remove wpY_remove; dsimp only
  rcases ly_csW v1 with ⟨w, hw, rfl⟩ | hn
  · refine ly_isWord_y hw (br_f (by decide) (ly_place hL hw.1 ?_))
    rcases ly_look hL hM hP hS hw with ⟨A, x, B, C, D, eL, eM, hl, hX, hY⟩ | ⟨A, B, eL, hl, hA, hB, hX, hY⟩
    · rw [← hl]
      subst eL eM
      have h2 := (ly_len hM).2
      rw [List.length_append, List.length_cons] at h2
      obtain ⟨u', hu, hU⟩ := ly_cut (A := A) (C := [(w, x)]) (B := B) hL
      obtain ⟨v', hv, hV⟩ := ly_tk hM
      obtain ⟨f1, a1, b1⟩ := u'
      obtain ⟨f2, a2, b2⟩ := v'
      refine hX _ (br_f (by decide) ?_)
      rw [nI_1]
      refine hU _ ?_
      dsimp only
      refine ly_badWord_y hw (br_t rfl (hY _ (br_t (nI_pos' (by omega)) (hV _ ?_))))
      exact ⟨rfl, _, _, hu, hv, ly_pm hP, (ly_Srt_mid hS).2.2⟩
    · rw [← hl]
      exact hX _ (br_t rfl (ly_badWord_y hw (br_t rfl (hY _ (br_f (by decide) ⟨rfl, I⟩)))))
  · exact ly_isWord_n hn (br_t rfl (ly_badWord_n hn (br_f (by decide) ⟨rfl, I⟩)))
theorem ly_sow_l {x1 x3 x4 : Int32} {t : Nat} (ht : t ≤ 30) : ∀ (d i : Nat) (f c : Int32) (a b a' b' : Nat → Int32), i + d = t → ly_R (f, a, b) (c, a', b') → ∃ (r : Int32) (u' : SX) (v' : SY), ly_R u' v' ∧ (∀ post : Int32 → SX → Prop, post r u' → wX_sow_57 post x1 x3 x4 (nI t) (d + 1) (nI i) f a b) ∧ (∀ post : Int32 → SY → Prop, post r v' → wY_sow_65 post x1 x3 x4 (nI t) (d + 1) (nI i) c a' b') := by
  intro d
  induction d with
  | zero =>
    intro i f c a b a' b' hi hR
    obtain ⟨L, M, hL, hM, hP, hS⟩ := id hR
    have e : c = f := (ly_len hM).1.trans ((congrArg nI hP.length_eq.symm).trans (ly_len hL).1.symm)
    subst e
    exact ⟨c, (c, a, b), (c, a', b'), hR, fun post p => br_t (nI_le (by omega) (by omega)) p, fun post p => br_t (nI_le (by omega) (by omega)) p⟩
  | succ d ih =>
    intro i f c a b a' b' hi hR
    obtain ⟨r, ⟨f1, a1, b1⟩, ⟨f2, a2, b2⟩, hR1, hX, hY⟩ := ly_put hR (x1 + (nI i * x4)) (x3 + nI i)
    obtain ⟨r2, u2, v2, hR2, hX2, hY2⟩ := ih (i + 1) f1 f2 a1 b1 a2 b2 (by omega) hR1
    exact ⟨r2, u2, v2, hR2, fun post p => br_f (nI_ge (by omega) (by omega)) (hX _ (nm_r (nI_1 i) (hX2 post p))), fun post p => br_f (nI_ge (by omega) (by omega)) (hY _ (nm_r (nI_1 i) (hY2 post p)))⟩
theorem ly_neg32 {x : Int32} (h : ¬ 0 ≤ x) : x / 32 < 1 := by
  have h1 : x.toInt < 0 := by
    have := Int32.not_le.mp h
    rw [Int32.lt_iff_toInt_lt] at this
    exact this
  have h2 : 0 ≤ (-x.toInt).tdiv 32 := Int.tdiv_nonneg (by omega) (by decide)
  rw [Int.neg_tdiv] at h2
  rw [Int32.lt_iff_toInt_lt, Jvm.Kit.i32_div (by intro z; exact absurd z.2 (by decide))]
  show x.toInt.tdiv 32 < 1
  omega
theorem i_vc_sow {k : Nat} {u : SX} {v : SY} (I : i_Rel k u v) (hk : k + 4 ≤ 2048) (v1 : Int32) (v2 : Int32) (v3 : Int32) : wpX_sow (fun r u' => wpY_sow (fun r' v' => r' = r ∧ i_Rel (k + 4) u' v') v v1 v2 v3) u v1 v2 v3 := by
  obtain ⟨h, a, b⟩ := u
  obtain ⟨c, a', b'⟩ := v
  unfold wpX_sow wpY_sow; dsimp only
  have h32 : ¬ (32 : Int32) = 0 := by decide
  rcases ly_csW v1 with ⟨w, hw, rfl⟩ | hn
  · by_cases h0 : 0 ≤ v2
    · refine ly_isWord_y hw (br_f (by decide) ⟨h32, nm_e ⟨h32, nm_e ?_⟩⟩)
      by_cases h1 : v2 / 32 < 1
      · exact br_t h1 (ly_badWord_y hw (br_t rfl (br_t h0 ⟨h32, nm_e ⟨h32, nm_e (br_t h1 ⟨rfl, I⟩)⟩⟩)))
      · refine br_f h1 ?_
        by_cases h2 : v2 / 32 ≤ 1000
        · refine br_t h2 ?_
          by_cases h3 : v2 - v2 / 32 * 32 < 1
          · exact br_t h3 (ly_badWord_y hw (br_t rfl (br_t h0 ⟨h32, nm_e ⟨h32, nm_e (br_f h1 (br_t h2 (br_t h3 ⟨rfl, I⟩)))⟩⟩)))
          · refine br_f h3 ?_
            by_cases h4 : v2 - v2 / 32 * 32 ≤ 30
            · refine br_t h4 ?_
              obtain ⟨t, ht, et⟩ := nI_of2 (x := v2 - v2 / 32 * 32) (M := 30) (n := 30) (by decide) (fun z => h3 (Int32.lt_trans z (by decide))) h4
              obtain ⟨r, u', v', hR, hX, hY⟩ := ly_sow_l (x1 := nI w) (x3 := v3) (x4 := v2 / 32) ht t 0 h c a b a' b' (by omega) I
              refine Exists.intro (t + 1) ?_
              rw [← et] at hX hY
              refine hX _ (ly_badWord_y hw (br_t rfl (br_t h0 ⟨h32, nm_e ⟨h32, nm_e (br_f h1 (br_t h2 (br_f h3 (br_t h4 ?_))))⟩⟩)))
              exact Exists.intro (t + 1) (hY _ ⟨rfl, hR⟩)
            · exact br_f h4 (ly_badWord_y hw (br_t rfl (br_t h0 ⟨h32, nm_e ⟨h32, nm_e (br_f h1 (br_t h2 (br_f h3 (br_f h4 ⟨rfl, I⟩))))⟩⟩)))
        · exact br_f h2 (ly_badWord_y hw (br_t rfl (br_t h0 ⟨h32, nm_e ⟨h32, nm_e (br_f h1 (br_f h2 ⟨rfl, I⟩))⟩⟩)))
    · exact ly_isWord_y hw (br_f (by decide) ⟨h32, nm_e ⟨h32, nm_e (br_t (ly_neg32 h0) (ly_badWord_y hw (br_t rfl (br_f h0 ⟨rfl, I⟩))))⟩⟩)
  · exact ly_isWord_n hn (br_t rfl (ly_badWord_n hn (br_f (by decide) ⟨rfl, I⟩)))
