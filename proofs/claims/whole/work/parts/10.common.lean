/-! common -/
theorem ly_cm_l {post : Int32 → Prop} {J : Int32 → Int32 → Prop} {x1 : Int32} {N i w : Nat} {a b : Nat → Int32} (hw : ly_Row w) (hi : i < 40) (ha : a i = nI w) : ∀ d j n Q, j + d = 6 → ly_Rw n Q → (ly_bg Q w = true ∨ n ≤ d) → (∀ Q', ly_Meet Q w Q' → J (nI Q') (nI (i + 1))) → wY_common_57 post J x1 (nI i) (nI N) a b (d + 1) (nI Q) (nI j) := by
  intro d
  induction d with
  | zero =>
    intro j n Q hj hQ hb p
    have hb2 : ly_bg Q w = true := by
      rcases hb with z | z
      · exact z
      · obtain rfl : n = 0 := by omega
        rw [ly_rw0 hQ]; exact ly_bg_1 hw
    exact br_t (nI_le (a := 6) (by omega) (by omega)) (nm_r (nI_1 i) (p Q ⟨ly_row_of hQ, fun q hq => ⟨fun z => ⟨z, ly_bg_trans hq (ly_row_of hQ) hw z hb2⟩, fun z => z.1⟩⟩))
  | succ d ih =>
    intro j n Q hj hQ hb p
    have hQl := ly_rw_lt hQ
    refine br_f (nI_ge (b := 6) (by omega) (by omega)) ⟨vp_in_nI (by omega) (by omega), ?_⟩
    rw [nI_clamp (by omega), ha]
    refine ly_begins (ly_row_of hQ) hw (fun y => br_f (by decide) (nm_r (nI_1 j) (ih (j + 1) n Q (by omega) hQ (Or.inl y) p))) (fun y => br_t rfl (nm_r (ly_shr3 hQl.2) (nm_r (nI_1 j) ?_)))
    cases n with
    | zero =>
      rw [ly_rw0 hQ] at y
      exact absurd (ly_bg_1 hw) y
    | succ n =>
      refine ih (j + 1) n (Q / 8) (by omega) (ly_rw_div hQ) (Or.inr ?_) (fun Q' h => p Q' ⟨h.1, fun q hq => (h.2 q hq).trans ⟨fun z => ⟨ly_bg_up (ly_rw_lt hq).1 hQl.2 z.1, z.2⟩, fun z => ⟨ly_bg_down z.1 ?_, z.2⟩⟩⟩)
      · rcases hb with z | z
        · exact absurd z y
        · omega
      · rintro rfl
        exact y z.2
def ly_CS (r : Nat) (S : List (Nat × Int32)) (Q0 Q : Nat) : Prop := (Q = 0 ∧ Q0 = 0 ∧ ∀ p, p ∈ S → ¬ ly_bg r p.1 = true) ∨ (ly_Row Q ∧ (Q0 ≠ 0 ∨ ∃ p, p ∈ S ∧ ly_bg r p.1 = true) ∧ ∀ q, ly_Row q → (ly_bg q Q = true ↔ (Q0 ≠ 0 → ly_bg q Q0 = true) ∧ ∀ p, p ∈ S → ly_bg r p.1 = true → ly_bg q p.1 = true))
theorem ly_CS_no {r Q0 Q : Nat} {p : Nat × Int32} {S : List (Nat × Int32)} (y : ¬ ly_bg r p.1 = true) (h : ly_CS r S Q0 Q) : ly_CS r (p :: S) Q0 Q := by
  rcases h with ⟨h1, h2, h3⟩ | ⟨h1, h2, h3⟩
  · refine Or.inl ⟨h1, h2, fun t ht => ?_⟩
    rcases List.mem_cons.mp ht with rfl | ht
    · exact y
    · exact h3 t ht
  · refine Or.inr ⟨h1, ?_, fun q hq => (h3 q hq).trans ⟨fun z => ⟨z.1, fun t ht hb => ?_⟩, fun z => ⟨z.1, fun t ht hb => z.2 t (List.mem_cons_of_mem _ ht) hb⟩⟩⟩
    · rcases h2 with z | ⟨t, ht, z⟩
      · exact Or.inl z
      · exact Or.inr ⟨t, List.mem_cons_of_mem _ ht, z⟩
    · rcases List.mem_cons.mp ht with rfl | ht
      · exact absurd hb y
      · exact z.2 t ht hb
theorem ly_CS_yes {r Q0 Q1 Q : Nat} {p : Nat × Int32} {S : List (Nat × Int32)} (y : ly_bg r p.1 = true) (hQ1 : ly_Row Q1) (h1 : ∀ q, ly_Row q → (ly_bg q Q1 = true ↔ (Q0 ≠ 0 → ly_bg q Q0 = true) ∧ ly_bg q p.1 = true)) (h : ly_CS r S Q1 Q) : ly_CS r (p :: S) Q0 Q := by
  have hne : Q1 ≠ 0 := by have := ly_rw_lt hQ1; omega
  rcases h with ⟨_, h2, _⟩ | ⟨h2, _, h3⟩
  · exact absurd h2 hne
  · refine Or.inr ⟨h2, Or.inr ⟨p, List.mem_cons_self .., y⟩, fun q hq => (h3 q hq).trans ⟨fun z => ?_, fun z => ⟨fun _ => (h1 q hq).mpr ⟨z.1, z.2 p (List.mem_cons_self ..) y⟩, fun t ht hb => z.2 t (List.mem_cons_of_mem _ ht) hb⟩⟩⟩
    have z1 := (h1 q hq).mp (z.1 hne)
    refine ⟨z1.1, fun t ht hb => ?_⟩
    rcases List.mem_cons.mp ht with rfl | ht
    · exact z1.2
    · exact z.2 t ht hb
theorem ly_com_l {post : Int32 → Prop} {r N : Nat} {a b : Nat → Int32} (hr : ly_Row r) (hN : N ≤ 40) : ∀ (S : List (Nat × Int32)) (i Q : Nat), ly_Gd S → ly_At a b i S → i + S.length = N → (Q = 0 ∨ ly_Row Q) → (∀ Q', ly_CS r S Q Q' → post (ly_enc Q')) → wY_common_15 post (nI r) (nI N) a b (S.length + 1) (ly_enc Q) (nI i) := by
  intro S
  induction S with
  | nil =>
    intro i Q _ _ hi hQ p
    have hi : i + 0 = N := hi
    refine br_t (nI_le (by omega) (by omega)) (p Q ?_)
    rcases hQ with z | z
    · exact Or.inl ⟨z, z, fun _ y => (nomatch y)⟩
    · have hne : Q ≠ 0 := by have := ly_rw_lt z; omega
      exact Or.inr ⟨z, Or.inl hne, fun q hq => ⟨fun y => ⟨fun _ => y, fun _ x => (nomatch x)⟩, fun y => y.1 hne⟩⟩
  | cons t S ih =>
    intro i Q hG hA hi hQ p
    rw [List.length_cons] at hi
    have ht := (ly_Gd_c hG).1
    have hn6 := ht.1.1
    have htl := ly_rw_lt ht.1
    refine br_f (nI_ge (by omega) (by omega)) (br_f (nI_ge (b := 40) (by omega) (by omega)) ⟨vp_in_nI (by omega) (by omega), ?_⟩)
    rw [nI_clamp (by omega), hA.1.1]
    refine ly_begins hr ht.1 (fun y => br_f (by decide) ?_) (fun y => br_t rfl (nm_r (nI_1 i) (ih (i + 1) Q (ly_Gd_c hG).2 hA.2 (by omega) hQ (fun Q' h => p Q' (ly_CS_no y h)))))
    have go : ∀ Q1, ly_Row Q1 → (∀ q, ly_Row q → (ly_bg q Q1 = true ↔ (Q ≠ 0 → ly_bg q Q = true) ∧ ly_bg q t.1 = true)) → wY_common_15 post (nI r) (nI N) a b (S.length + 1) (nI Q1) (nI (i + 1)) := by
      intro Q1 h1 h2
      have := ih (i + 1) Q1 (ly_Gd_c hG).2 hA.2 (by omega) (Or.inr h1) (fun Q' h => p Q' (ly_CS_yes y h1 h2 h))
      rw [ly_encS (ly_rw_lt h1).1] at this
      exact this
    rcases hQ with z | z
    · subst z
      refine br_f (by decide) ⟨vp_in_nI (by omega) (by omega), nm_e (Exists.intro 7 (ly_cm_l ht.1 (by omega) hA.1.1 6 0 _ t.1 rfl ht.1 (Or.inl (ly_bg_refl _)) (fun Q1 h1 => go Q1 h1.1 (fun q hq => (h1.2 q hq).trans ⟨fun z => ⟨fun y => absurd rfl y, z.1⟩, fun z => ⟨z.2, z.2⟩⟩))))⟩
    · have hQl := ly_rw_lt z
      have h6 := z.1
      rw [ly_encS hQl.1]
      refine br_t (nI_pos' (by omega)) (Exists.intro 7 (ly_cm_l ht.1 (by omega) hA.1.1 6 0 _ Q rfl z (Or.inr h6) (fun Q1 h1 => go Q1 h1.1 (fun q hq => (h1.2 q hq).trans ⟨fun z => ⟨fun _ => z.1, z.2⟩, fun z => ⟨z.1 (by omega), z.2⟩⟩))))
theorem ly_CS_uni {r Q Q' : Nat} {S : List (Nat × Int32)} (h : ly_CS r S 0 Q) (h' : ly_CS r S 0 Q') : Q' = Q := by
  rcases h with ⟨h1, _, h3⟩ | ⟨h1, h2, h3⟩
  · rcases h' with ⟨g1, _, _⟩ | ⟨_, g2, _⟩
    · omega
    · rcases g2 with z | ⟨t, ht, z⟩
      · exact absurd rfl z
      · exact absurd z (h3 t ht)
  · rcases h' with ⟨_, _, g3⟩ | ⟨g1, _, g3⟩
    · rcases h2 with z | ⟨t, ht, z⟩
      · exact absurd rfl z
      · exact absurd z (g3 t ht)
    · have a1 := ly_bg_le ((g3 Q h1).mpr ((h3 Q h1).mp (ly_bg_refl Q)))
      have a2 := ly_bg_le ((h3 Q' g1).mpr ((g3 Q' g1).mp (ly_bg_refl Q')))
      omega
theorem ly_CS_perm {r Q0 Q : Nat} {S T : List (Nat × Int32)} (hP : S.Perm T) (h : ly_CS r S Q0 Q) : ly_CS r T Q0 Q := by
  rcases h with ⟨h1, h2, h3⟩ | ⟨h1, h2, h3⟩
  · exact Or.inl ⟨h1, h2, fun p hp => h3 p (hP.mem_iff.mpr hp)⟩
  · refine Or.inr ⟨h1, ?_, fun q hq => (h3 q hq).trans ⟨fun z => ⟨z.1, fun p hp => z.2 p (hP.mem_iff.mpr hp)⟩, fun z => ⟨z.1, fun p hp => z.2 p (hP.mem_iff.mp hp)⟩⟩⟩
    rcases h2 with z | ⟨t, ht, z⟩
    · exact Or.inl z
    · exact Or.inr ⟨t, hP.mem_iff.mp ht, z⟩
theorem ly_CS_mem {r Q0 Q : Nat} {L R : List (Nat × Int32)} (hR : ∀ p, p ∈ R ↔ (p ∈ L ∧ ly_bg r p.1 = true)) (h : ly_CS r R Q0 Q) : ly_CS r L Q0 Q := by
  rcases h with ⟨h1, h2, h3⟩ | ⟨h1, h2, h3⟩
  · exact Or.inl ⟨h1, h2, fun p hp z => h3 p ((hR p).mpr ⟨hp, z⟩) z⟩
  · refine Or.inr ⟨h1, ?_, fun q hq => (h3 q hq).trans ⟨fun z => ⟨z.1, fun p hp hb => z.2 p ((hR p).mpr ⟨hp, hb⟩) hb⟩, fun z => ⟨z.1, fun p hp hb => z.2 p ((hR p).mp hp).1 hb⟩⟩⟩
    rcases h2 with z | ⟨t, ht, z⟩
    · exact Or.inl z
    · exact Or.inr ⟨t, ((hR t).mp ht).1, z⟩
theorem ly_ends {f l : Nat × Int32} {R : List (Nat × Int32)} {r Q : Nat} (hG : ly_Gd R) (hS : ly_Srt R) {R1 R2 : List (Nat × Int32)} (e1 : R = f :: R1) (e2 : R = R2 ++ [l]) (hb : ∀ p, p ∈ R → ly_bg r p.1 = true) (h : ly_Meet f.1 l.1 Q) : ly_CS r R 0 Q := by
  have hf : f ∈ R := by rw [e1]; exact List.mem_cons_self ..
  have hl : l ∈ R := by rw [e2]; exact List.mem_append_right _ (List.mem_cons_self ..)
  refine Or.inr ⟨h.1, Or.inr ⟨f, hf, hb f hf⟩, fun q hq => (h.2 q hq).trans ⟨fun z => ⟨fun y => absurd rfl y, fun p hp _ => ?_⟩, fun z => ⟨z.2 f hf (hb f hf), z.2 l hl (hb l hl)⟩⟩⟩
  have k1 := (ly_bg_K hq (hG f hf).1).mp z.1
  have k2 := (ly_bg_K hq (hG l hl).1).mp z.2
  refine (ly_bg_K hq (hG p hp).1).mpr ⟨?_, ?_⟩
  · have : ly_K f.1 ≤ ly_K p.1 := by
      have hS1 := hS
      rw [e1] at hp hS1
      rcases List.mem_cons.mp hp with rfl | hp
      · exact Nat.le_refl _
      · exact Nat.le_of_lt ((List.pairwise_cons.mp hS1).1 p hp)
    omega
  · have : ly_K p.1 ≤ ly_K l.1 := by
      have hS1 := hS
      rw [e2] at hp hS1
      rcases List.mem_append.mp hp with hp | hp
      · exact Nat.le_of_lt ((List.pairwise_append.mp hS1).2.2 p hp l (List.mem_cons_self ..))
      · rcases List.mem_cons.mp hp with rfl | hp
        · exact Nat.le_refl _
        · exact nomatch hp
    omega
theorem i_vc_common {k : Nat} {u : SX} {v : SY} (I : i_Rel k u v) (hk : k + 4 ≤ 2048) (v1 : Int32) : wpX_common (fun r => wpY_common (fun r' => r' = r ∧ i_Rel (k + 4) u v) v v1) u v1 := by
  obtain ⟨L, M, hL, hM, hP, hS⟩ := id I
  obtain ⟨h, a, b⟩ := u
  obtain ⟨c, a', b'⟩ := v
  unfold wpX_common wpY_common; dsimp only
  rcases ly_csR v1 with ⟨w, hw, rfl⟩ | hn
  · refine ly_isRow_y hw (br_f (by decide) (ly_place hL hw ?_))
    obtain ⟨A, R, B, e, hl, hA, hR, hB, hX⟩ := ly_range hL hS hw
    rw [← hl]
    refine hX _ ?_
    have hY : ∀ (Q : Nat) (P : Int32 → Prop), ly_CS w L 0 Q → P (ly_enc Q) → wpY_badRow (fun r_1 => (((r_1 = 0 → (∃ n15 : Nat, wY_common_15 P (nI w) c a' b' n15 (-2) 0)) ∧ (¬ r_1 = 0 → (P (-1)))))) (c, a', b') (nI w) := by
      intro Q P hQ hp
      refine ly_badRow_y hw (br_t rfl ?_)
      obtain ⟨a2, b2, e2, hAt, hG, hlen⟩ := id hM
      cases e2
      refine Exists.intro _ (ly_com_l hw hlen M 0 0 hG hAt (by omega) (Or.inl rfl) (fun Q' hQ' => ?_))
      rw [ly_CS_uni (ly_CS_perm hP hQ) hQ']; exact hp
    have hmem : ∀ p, p ∈ R ↔ (p ∈ L ∧ ly_bg w p.1 = true) := by
      intro p
      refine ⟨fun z => ⟨by rw [e]; exact List.mem_append_right _ (List.mem_append_left _ z), hR p z⟩, fun z => ?_⟩
      have z1 := z.1
      rw [e] at z1
      rcases List.mem_append.mp z1 with y | y
      · exact absurd z.2 (hA p y)
      · rcases List.mem_append.mp y with y | y
        · exact y
        · exact absurd z.2 (hB p y)
    have hlen := (ly_len hL).2
    have hl2 := hlen
    rw [e, List.length_append, List.length_append] at hl2
    rcases Nat.eq_zero_or_pos R.length with z | z
    · refine br_f (nI_nlt (by omega) (by omega)) (hY 0 _ (ly_CS_mem hmem ?_) ⟨rfl, I⟩)
      rw [List.length_eq_zero_iff.mp z]
      exact Or.inl ⟨rfl, rfl, fun _ y => (nomatch y)⟩
    · obtain ⟨R2, l, e2, hR2⟩ := ly_last (S := R) (j := R.length - 1) (by omega)
      have hRG : ly_Gd R := fun p hp => ly_gd hL p ((hmem p).mp hp).1
      have hRS : ly_Srt R := by
        rw [e] at hS
        exact (List.pairwise_append.mp (List.pairwise_append.mp hS).2.1).1
      cases R with
      | nil => exact absurd z (Nat.lt_irrefl _)
      | cons f R1 =>
        obtain ⟨a1, b1, e1, hAt, _, _⟩ := id hL
        cases e1
        have af : a A.length = nI f.1 := by
          rw [e] at hAt; exact (ly_At_mid hAt).1
        have al : a (A.length + R2.length) = nI l.1 := by
          rw [e, e2, List.append_assoc, ← List.append_assoc] at hAt
          have := (ly_At_mid hAt).1
          rw [List.length_append] at this; exact this
        have hlf : l ∈ f :: R1 := by rw [e2]; exact List.mem_append_right _ (List.mem_cons_self ..)
        have ee : nI (A.length + (f :: R1).length) - 1 = nI (A.length + R2.length) := by
          rw [show A.length + (f :: R1).length = A.length + R2.length + 1 from by omega]; exact nI_pred _
        refine br_t (nI_lt (by omega) (by omega)) ⟨vp_in_nI (by omega) (by omega), ?_⟩
        rw [ee, nI_clamp (by omega), nI_clamp (by omega), af, al]
        refine ⟨vp_in_nI (by omega) (by omega), ly_shared (hRG f (List.mem_cons_self ..)).1 (hRG l hlf).1 (fun Q hQ => hY Q _ (ly_CS_mem hmem (ly_ends hRG hRS rfl e2 hR hQ)) ⟨ly_encS (ly_rw_lt hQ.1).1, I⟩)⟩
  · exact ly_isRow_n hn (br_t rfl (ly_badRow_n hn (br_f (by decide) ⟨rfl, I⟩)))
