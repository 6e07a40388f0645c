/-! longest; -2 stands for none, here 0 -/
def ly_enc (Q : Nat) : Int32 := if Q = 0 then -2 else nI Q
theorem ly_enc0 : ly_enc 0 = -2 := rfl
theorem ly_encS {Q : Nat} (h : 1 ≤ Q) : ly_enc Q = nI Q := if_neg (by omega)
theorem ly_m2lt {q : Nat} (h : q < 524288) : ¬ nI q ≤ -2 := by
  intro z
  exact absurd (Int32.le_trans (nI_pos' (by omega)) z) (by decide)
theorem ly_enc_le {q Q : Nat} (h1 : 1 ≤ q) (h2 : q < 524288) (h3 : Q < 524288) : nI q ≤ ly_enc Q ↔ q ≤ Q := by
  rcases Nat.eq_zero_or_pos Q with e | e
  · subst e
    rw [ly_enc0]
    exact ⟨fun z => absurd z (ly_m2lt h2), fun z => by omega⟩
  · rw [ly_encS e, nI_leI (by omega) (by omega)]
def ly_LS (w : Nat) (S : List (Nat × Int32)) (Q0 Q : Nat) : Prop := (∀ p, p ∈ S → ly_bg p.1 w = true → p.1 ≤ Q) ∧ Q0 ≤ Q ∧ (Q = Q0 ∨ ∃ p, p ∈ S ∧ ly_bg p.1 w = true ∧ Q = p.1)
theorem ly_lgY_l {post : Int32 → Prop} {w N : Nat} {a b : Nat → Int32} (hw : ly_Row w) (hN : N ≤ 40) : ∀ (S : List (Nat × Int32)) (i Q : Nat), ly_Gd S → ly_At a b i S → i + S.length = N → Q < 524288 → (∀ Q', ly_LS w S Q Q' → post (ly_enc Q')) → wY_longest_15 post (nI w) (nI N) a b (S.length + 1) (ly_enc Q) (nI i) := by
  intro S
  induction S with
  | nil =>
    intro i Q _ _ hi _ p
    have hi : i + 0 = N := hi
    exact br_t (nI_le (by omega) (by omega)) (p Q ⟨fun _ z => (nomatch z), Nat.le_refl _, Or.inl rfl⟩)
  | cons q S ih =>
    intro i Q hG hA hi hQ p
    rw [List.length_cons] at hi
    have hq := ly_word_ge (ly_Gd_c hG).1
    refine br_f (nI_ge (by omega) (by omega)) (br_f (nI_ge (b := 40) (by omega) (by omega)) ⟨vp_in_nI (by omega) (by omega), ?_⟩)
    rw [nI_clamp (by omega), hA.1.1, ly_enc_le (by omega) hq.2 hQ]
    refine ly_begins (ly_Gd_c hG).1.1 hw (fun y => br_f (by decide) ⟨vp_in_nI (by omega) (by omega), br_c (fun l => nm_r (nI_1 i) (ih (i + 1) Q (ly_Gd_c hG).2 hA.2 (by omega) hQ (fun Q' h => p Q' ?_))) (fun l => ⟨vp_in_nI (by omega) (by omega), nm_r (ly_encS (by omega)).symm (nm_r (nI_1 i) (ih (i + 1) q.1 (ly_Gd_c hG).2 hA.2 (by omega) hq.2 (fun Q' h => p Q' ?_)))⟩)⟩) (fun y => br_t rfl (nm_r (nI_1 i) (ih (i + 1) Q (ly_Gd_c hG).2 hA.2 (by omega) hQ (fun Q' h => p Q' ?_))))
    · refine ⟨fun t ht hb => ?_, h.2.1, ?_⟩
      · rcases List.mem_cons.mp ht with rfl | ht
        · have := h.2.1; omega
        · exact h.1 t ht hb
      · rcases h.2.2 with z | ⟨t, ht, z⟩
        · exact Or.inl z
        · exact Or.inr ⟨t, List.mem_cons_of_mem _ ht, z⟩
    · refine ⟨fun t ht hb => ?_, by have := h.2.1; omega, ?_⟩
      · rcases List.mem_cons.mp ht with rfl | ht
        · exact h.2.1
        · exact h.1 t ht hb
      · rcases h.2.2 with z | ⟨t, ht, z⟩
        · exact Or.inr ⟨q, List.mem_cons_self .., y, z⟩
        · exact Or.inr ⟨t, List.mem_cons_of_mem _ ht, z⟩
    · refine ⟨fun t ht hb => ?_, h.2.1, ?_⟩
      · rcases List.mem_cons.mp ht with rfl | ht
        · exact absurd hb y
        · exact h.1 t ht hb
      · rcases h.2.2 with z | ⟨t, ht, z⟩
        · exact Or.inl z
        · exact Or.inr ⟨t, List.mem_cons_of_mem _ ht, z⟩
theorem ly_lgX_l {post : Int32 → Prop} {w n : Nat} {h : Int32} {a b : Nat → Int32} {L : List (Nat × Int32)} (hw : ly_Rw n w) (hL : ly_Rep L (h, a, b)) (hS : ly_Srt L) (p : ∀ Q, ly_LS w L 0 Q → post (ly_enc Q)) : ∀ d i, i + d = 6 → i ≤ n → (∀ q, q ∈ L → ∀ k, k < i → w / 8 ^ k ≠ q.1) → wX_longest_13 post h a b (d + 1) (nI (w / 8 ^ i)) (nI i) := by
  have hG := ly_gd hL
  have hwl := ly_rw_lt hw
  have mono : ∀ i k, i ≤ k → w / 8 ^ k ≤ w / 8 ^ i := fun i k hik => Nat.div_le_div_left (Nat.pow_le_pow_right (by omega) hik) (Nat.pos_of_ne_zero (by intro z; simp at z))
  have none : ∀ i, (∀ q, q ∈ L → ∀ k, k < i → w / 8 ^ k ≠ q.1) → w / 8 ^ i ≤ 1 → ly_LS w L 0 0 := by
    intro i hn h1
    refine ⟨fun q hq hb => ?_, Nat.le_refl _, Or.inl rfl⟩
    obtain ⟨k, _, e⟩ := ly_bg_iff.mp hb
    have h8 := ly_word_ge (hG q hq)
    rcases Nat.lt_or_ge k i with z | z
    · exact absurd e (hn q hq k z)
    · have := mono i k z
      omega
  intro d
  induction d with
  | zero =>
    intro i hi hin hn
    obtain rfl : i = 6 := by omega
    refine br_t (nI_le (a := 6) (by omega) (by omega)) (p 0 (none 6 hn ?_))
    simp only [Nat.reducePow]; omega
  | succ d ih =>
    intro i hi hin hn
    have hle : w / 8 ^ i ≤ w := Nat.div_le_self _ _
    have hrow := ly_rw_divk hw i hin
    refine br_f (nI_ge (b := 6) (by omega) (by omega)) (pk_le (w / 8 ^ i) 1 (fun l => p 0 (none i hn l)) (fun l => ?_) rfl rfl (by omega) (by omega))
    have hword : ly_Word (w / 8 ^ i) := ly_row_word (ly_row_of hrow) (by omega)
    refine ly_place hL hword.1 ?_
    rcases ly_hold hword.1 hG hS with ⟨A, x, B, e, hl⟩ | ⟨A, B, e, hl, hA, hB⟩
    · rw [← hl]
      have hin2 : (w / 8 ^ i, x) ∈ L := by rw [e]; exact List.mem_append_right _ (List.mem_cons_self ..)
      have hL2 := hL
      rw [e] at hL2
      refine ly_held_y hL2 (br_f (by decide) ?_)
      have hp := p (w / 8 ^ i) ⟨fun q hq hb => ?_, by omega, Or.inr ⟨_, hin2, ly_bg_iff.mpr ⟨i, by omega, rfl⟩, rfl⟩⟩
      · rw [ly_encS (by omega)] at hp; exact hp
      · obtain ⟨k, _, e⟩ := ly_bg_iff.mp hb
        rcases Nat.lt_or_ge k i with z | z
        · exact absurd e (hn q hq k z)
        · have := mono i k z
          omega
    · rw [← hl]
      have hL2 := hL
      rw [e] at hL2
      refine ly_held_n hL2 (fun q hq z => ?_) (by omega) (br_t rfl (ly_wll (by omega) (nm_r (nI_1 i) ?_)))
      · have := hB q hq
        rw [z] at this; exact Nat.lt_irrefl _ this
      · rw [Nat.div_div_eq_div_mul, ← Nat.pow_succ]
        refine ih (i + 1) (by omega) ?_ (fun q hq k hk => ?_)
        · rcases Nat.lt_or_ge i n with z | z
          · exact z
          · rw [show n - i = 0 from by omega] at hrow
            have := ly_rw0 hrow
            omega
        · rcases Nat.lt_or_ge k i with z | z
          · exact hn q hq k z
          · obtain rfl : k = i := by omega
            intro ee
            rw [e] at hq
            rcases List.mem_append.mp hq with y | y
            · have := hA q y; rw [← ee] at this; exact Nat.lt_irrefl _ this
            · have := hB q y; rw [← ee] at this; exact Nat.lt_irrefl _ this
theorem i_vc_longest {k : Nat} {u : SX} {v : SY} (I : i_Rel k u v) (hk : k + 4 ≤ 2048) (v1 : Int32) : wpX_longest (fun r => wpY_longest (fun r' => r' = r ∧ i_Rel (k + 4) u v) v v1) u v1 := by
  obtain ⟨L, M, hL, hM, hP, hS⟩ := id I
  obtain ⟨h, a, b⟩ := u
  obtain ⟨c, a', b'⟩ := v
  unfold wpX_longest wpY_longest; dsimp only
  rcases ly_csW v1 with ⟨w, hw, rfl⟩ | hn
  · refine ly_isWord_y hw (br_f (by decide) ?_)
    have hX := ly_lgX_l (post := fun r => wpY_badWord (fun r_1 => (((r_1 = 0 → (∃ n15 : Nat, wY_longest_15 (fun r' => r' = r ∧ i_Rel (k + 4) (h, a, b) (c, a', b')) (nI w) c a' b' n15 (-2) 0)) ∧ (¬ r_1 = 0 → (-1 = r ∧ i_Rel (k + 4) (h, a, b) (c, a', b')))))) (c, a', b') (nI w)) hw.1 hL hS (fun Q hQ => ?_) 6 0 rfl (by omega) (fun q hq k hk => by omega)
    · rw [Nat.pow_zero, Nat.div_one] at hX
      exact Exists.intro _ hX
    · refine ly_badWord_y hw (br_t rfl ?_)
      obtain ⟨a2, b2, e2, hAt, hG, hlen⟩ := id hM
      cases e2
      refine Exists.intro _ (ly_lgY_l hw.1 hlen M 0 0 hG hAt (by omega) (by omega) (fun Q' hQ' => ⟨congrArg ly_enc ?_, I⟩))
      have hGL := ly_gd hL
      have h1 : Q ≤ Q' := by
        rcases hQ.2.2 with z | ⟨t, ht, hb, z⟩
        · omega
        · have := hQ'.1 t (hP.mem_iff.mp ht) hb
          omega
      have h2 : Q' ≤ Q := by
        rcases hQ'.2.2 with z | ⟨t, ht, hb, z⟩
        · omega
        · have := hQ.1 t (hP.mem_iff.mpr ht) hb
          omega
      omega
  · exact ly_isWord_n hn (br_t rfl (ly_badWord_n hn (br_f (by decide) ⟨rfl, I⟩)))
