theorem ly_p8 {j : Nat} (h : j ≤ 6) : 1 ≤ 8 ^ j ∧ 8 ^ j ≤ 262144 := by
  rcases ly_c7 h with rfl | rfl | rfl | rfl | rfl | rfl | rfl <;> decide
def ly_In (j : Nat) (x : Int32) : Prop := nI (8 ^ j) ≤ x ∧ x < nI (2 * 8 ^ j)
def ly_Bad (x : Int32) : Prop := ∀ j, j ≤ 6 → ¬ ly_In j x
def ly_NW (x : Int32) : Prop := ly_Bad x ∨ x = nI 1
theorem ly_in_rw {j : Nat} {x : Int32} (hj : j ≤ 6) (h : ly_In j x) : ∃ w, ly_Rw j w ∧ x = nI w := by
  have hp := ly_p8 hj
  have h0 : ¬ x < 0 := Int32.not_lt.mpr (Int32.le_trans (nI_pos' (by omega)) h.1)
  obtain ⟨w, hw, rfl⟩ := nI_of h0
  exact ⟨w, ⟨hj, (nI_leI (by omega) hw).mp h.1, (nI_ltI hw (by omega)).mp h.2⟩, rfl⟩
theorem ly_rw_in {j w : Nat} (h : ly_Rw j w) : ly_In j (nI w) := by
  have hp := ly_p8 h.1
  have hl := ly_rw_lt h
  exact ⟨nI_le h.2.1 (by omega), nI_lt h.2.2 (by omega)⟩
theorem ly_in_uni {n j w : Nat} (h : ly_Rw n w) (hj : j ≤ 6) (hi : ly_In j (nI w)) : j = n := by
  obtain ⟨w', h', e⟩ := ly_in_rw hj hi
  have h1 := ly_rw_lt h
  have h2 := ly_rw_lt h'
  rw [nI_eq (by omega) (by omega)] at e
  subst e
  exact ly_rw_uni h' h
theorem ly_rw1 : ly_Rw 0 1 := ⟨by omega, by decide, by decide⟩
theorem ly_row1 : ly_Row 1 := ly_row_of ly_rw1
theorem ly_rw0 {w : Nat} (h : ly_Rw 0 w) : w = 1 := by
  have h1 := h.2.1
  have h2 := h.2.2
  simp only [Nat.reducePow] at h1 h2
  omega
theorem ly_word_ge {w : Nat} (h : ly_Word w) : 8 ≤ w ∧ w < 524288 := by
  have h2 := ly_rw_lt h.1
  refine ⟨?_, h2.2⟩
  rcases Nat.lt_or_ge w 8 with h3 | h3
  · have h4 : ly_nl w = 0 := by unfold ly_nl; rw [if_pos h3]
    have := h.2
    omega
  · exact h3
theorem ly_row_word {w : Nat} (h : ly_Row w) (hn : w ≠ 1) : ly_Word w := by
  refine ⟨h, ?_⟩
  rcases Nat.eq_zero_or_pos (ly_nl w) with e | e
  · unfold ly_Row at h; rw [e] at h; exact absurd (ly_rw0 h) hn
  · exact e
theorem ly_csR (x : Int32) : (∃ w, ly_Row w ∧ x = nI w) ∨ ly_Bad x := by
  by_cases h : ∃ j, j ≤ 6 ∧ ly_In j x
  · obtain ⟨j, hj, hi⟩ := h
    obtain ⟨w, hw, e⟩ := ly_in_rw hj hi
    exact Or.inl ⟨w, ly_row_of hw, e⟩
  · exact Or.inr fun j hj hi => h ⟨j, hj, hi⟩
theorem ly_csW (x : Int32) : (∃ w, ly_Word w ∧ x = nI w) ∨ ly_NW x := by
  rcases ly_csR x with ⟨w, hw, e⟩ | h
  · by_cases h1 : w = 1
    · exact Or.inr (Or.inr (by rw [e, h1]))
    · exact Or.inl ⟨w, ly_row_word hw h1, e⟩
  · exact Or.inr (Or.inl h)
theorem ly_NW_ne {x : Int32} (h : ly_NW x) {w : Nat} (hw : ly_Word w) : nI w ≠ x := by
  rintro rfl
  rcases h with h | h
  · exact h _ hw.1.1 (ly_rw_in hw.1)
  · have := ly_word_ge hw
    rw [nI_eq (by omega) (by omega)] at h
    omega
/-! isWord, isRow -/
theorem ly_sh1 : ∀ j, j < 7 → (1 : Int32) <<< ((3 * nI j) &&& 31) = nI (8 ^ j) := by decide +kernel
theorem ly_isWord_l {post : Int32 → Prop} {x : Int32} (h1 : ∀ j, 1 ≤ j → j ≤ 6 → ly_In j x → post 1) (h0 : (∀ j, 1 ≤ j → j ≤ 6 → ¬ ly_In j x) → post 0) : ∀ d j, j + d = 7 → 1 ≤ j → (∀ i, 1 ≤ i → i < j → ¬ ly_In i x) → wX_isWord_2 post x (d + 1) (nI j) := by
  intro d
  induction d with
  | zero =>
    intro j hj _ hn
    exact br_t (nI_lt (a := 6) (by omega) (by omega)) (h0 fun i a b => hn i a (by omega))
  | succ d ih =>
    intro j hj hj1 hn
    refine br_f (nI_nlt (a := 6) (b := j) (by omega) (by omega)) (nm_r (ly_sh1 j (by omega)) ?_)
    have hnext : ¬ ly_In j x → ∀ i, 1 ≤ i → i < j + 1 → ¬ ly_In i x := fun h i a b => by
      rcases Nat.lt_or_ge i j with c | c
      · exact hn i a c
      · rw [show i = j from by omega]; exact h
    have e2 : (2 : Int32) * nI (8 ^ j) = nI (2 * 8 ^ j) := pk_mul 2 _
    by_cases a : x < nI (8 ^ j)
    · exact br_t a (nm_r (nI_1 j) (ih (j + 1) (by omega) (by omega) (hnext fun z => Int32.not_lt.mpr z.1 a)))
    · refine br_f a ?_
      rw [e2]
      by_cases b : nI (2 * 8 ^ j) ≤ x
      · exact br_t b (nm_r (nI_1 j) (ih (j + 1) (by omega) (by omega) (hnext fun z => Int32.not_lt.mpr b z.2)))
      · exact br_f b (h1 j hj1 (by omega) ⟨Int32.not_lt.mp a, Int32.not_le.mp b⟩)
theorem ly_isWord_y {post : Int32 → Prop} {w : Nat} (h : ly_Word w) (p : post 1) : wpX_isWord post (nI w) :=
  Exists.intro 7 (ly_isWord_l (fun _ _ _ _ => p) (fun z => absurd (ly_rw_in h.1) (z _ h.2 h.1.1)) 6 1 rfl (by omega) (fun i a b => by omega))
theorem ly_isWord_n {post : Int32 → Prop} {x : Int32} (h : ly_NW x) (p : post 0) : wpX_isWord post x := by
  have hn : ∀ j, 1 ≤ j → j ≤ 6 → ¬ ly_In j x := by
    rcases h with h | rfl
    · exact fun j _ a => h j a
    · intro j a b c
      have := ly_in_uni ly_rw1 b c
      omega
  exact Exists.intro 7 (ly_isWord_l (fun j a b c => absurd c (hn j a b)) (fun _ => p) 6 1 rfl (by omega) (fun i a b => by omega))
theorem ly_isRow_y {post : Int32 → Prop} {w : Nat} (h : ly_Row w) (p : post 1) : wpX_isRow post (nI w) := by
  by_cases e : w = 1
  · subst e; exact br_t (show nI 1 = 1 from rfl) p
  · have hl := ly_rw_lt h
    exact br_f (fun z => e ((nI_eq (b := 1) (by omega) (by omega)).mp z)) (ly_isWord_y (ly_row_word h e) (br_f (by decide) p))
theorem ly_isRow_n {post : Int32 → Prop} {x : Int32} (h : ly_Bad x) (p : post 0) : wpX_isRow post x := by
  refine br_f ?_ (ly_isWord_n (Or.inl h) (br_t rfl p))
  rintro rfl
  exact h 0 (by omega) (ly_rw_in ly_rw1)
/-! letters, badWord, badRow -/
theorem ly_letters_l {post : Int32 → Prop} {x c : Int32} {a b : Nat → Int32} (h1 : ∀ j, j ≤ 6 → ly_In j x → post (nI j)) (h0 : ly_Bad x → post (-1)) : ∀ d j, j + d = 7 → (∀ i, i < j → ¬ ly_In i x) → wY_letters_4 post x c a b (d + 1) (nI (8 ^ j)) (nI j) := by
  intro d
  induction d with
  | zero =>
    intro j hj hn
    exact br_t (nI_le (a := 7) (by omega) (by omega)) (h0 fun i _ => hn i (by omega))
  | succ d ih =>
    intro j hj hn
    refine br_f (nI_ge (b := 7) (by omega) (by omega)) ?_
    have hnext : ¬ ly_In j x → ∀ i, i < j + 1 → ¬ ly_In i x := fun h i b => by
      rcases Nat.lt_or_ge i j with c | c
      · exact hn i c
      · rw [show i = j from by omega]; exact h
    have e8 : (8 : Int32) * nI (8 ^ j) = nI (8 ^ (j + 1)) := (pk_mul 8 _).trans (congrArg nI (by rw [Nat.pow_succ]; omega))
    have e2 : (2 : Int32) * nI (8 ^ j) = nI (2 * 8 ^ j) := pk_mul 2 _
    by_cases a : x < nI (8 ^ j)
    · exact br_t a (nm_r e8 (nm_r (nI_1 j) (ih (j + 1) (by omega) (hnext fun z => Int32.not_lt.mpr z.1 a))))
    · refine br_f a ?_
      rw [e2]
      by_cases b : nI (2 * 8 ^ j) ≤ x
      · exact br_t b (nm_r e8 (nm_r (nI_1 j) (ih (j + 1) (by omega) (hnext fun z => Int32.not_lt.mpr b z.2))))
      · exact br_f b (h1 j (by omega) ⟨Int32.not_lt.mp a, Int32.not_le.mp b⟩)
theorem ly_letters_y {post : Int32 → Prop} {v : SY} {n w : Nat} (h : ly_Rw n w) (p : post (nI n)) : wpY_letters post v (nI w) := by
  obtain ⟨c, a, b⟩ := v
  exact Exists.intro 8 (ly_letters_l (fun j hj hi => by rw [ly_in_uni h hj hi]; exact p) (fun z => absurd (ly_rw_in h) (z n h.1)) 7 0 rfl (fun i a => by omega))
theorem ly_letters_n {post : Int32 → Prop} {v : SY} {x : Int32} (h : ly_Bad x) (p : post (-1)) : wpY_letters post v x := by
  obtain ⟨c, a, b⟩ := v
  exact Exists.intro 8 (ly_letters_l (fun j hj hi => absurd hi (h j hj)) (fun _ => p) 7 0 rfl (fun i a => by omega))
theorem ly_badWord_y {post : Int32 → Prop} {v : SY} {w : Nat} (h : ly_Word w) (p : post 0) : wpY_badWord post v (nI w) := by
  obtain ⟨c, a, b⟩ := v
  have := h.1.1
  unfold wpY_badWord; dsimp only
  exact ly_letters_y h.1 (br_t (nI_le (a := 1) h.2 (by omega)) p)
theorem ly_badWord_n {post : Int32 → Prop} {v : SY} {x : Int32} (h : ly_NW x) (p : post 1) : wpY_badWord post v x := by
  obtain ⟨c, a, b⟩ := v
  unfold wpY_badWord; dsimp only
  rcases h with h | rfl
  · exact ly_letters_n h (br_f (by decide) p)
  · exact ly_letters_y ly_rw1 (br_f (by decide) p)
theorem ly_badRow_y {post : Int32 → Prop} {v : SY} {w : Nat} (h : ly_Row w) (p : post 0) : wpY_badRow post v (nI w) := by
  obtain ⟨c, a, b⟩ := v
  have := h.1
  unfold wpY_badRow; dsimp only
  exact ly_letters_y h (br_t (nI_pos' (by omega)) p)
theorem ly_badRow_n {post : Int32 → Prop} {v : SY} {x : Int32} (h : ly_Bad x) (p : post 1) : wpY_badRow post v x := by
  obtain ⟨c, a, b⟩ := v
  unfold wpY_badRow; dsimp only
  exact ly_letters_n h (br_f (by decide) p)
/-! orderKey -/
theorem ly_F_lo {n w : Nat} (h : ly_Rw n w) : 262144 ≤ w * 8 ^ (6 - n) ∧ w * 8 ^ (6 - n) < 524288 := by
  obtain ⟨hn, h1, h2⟩ := h
  rcases ly_c7 hn with rfl | rfl | rfl | rfl | rfl | rfl | rfl <;> simp only [Nat.reduceSub, Nat.reducePow] at h1 h2 ⊢ <;> omega
theorem ly_F_hi {n w i : Nat} (h : ly_Rw n w) (hi : i + 1 ≤ 6 - n) : w * 8 ^ i < 65536 := by
  have h3 : w * 8 ^ i ≤ w * 8 ^ (5 - n) := Nat.mul_le_mul_left _ (Nat.pow_le_pow_right (by omega) (by omega))
  obtain ⟨hn, h1, h2⟩ := h
  rcases ly_c7 hn with rfl | rfl | rfl | rfl | rfl | rfl | rfl <;> simp only [Nat.reduceSub, Nat.reducePow] at h1 h2 h3 hi ⊢ <;> omega
theorem ly_s3 : (((3 : Int32) &&& 31).toBitVec.smod 32).toNat = 3 := by decide
theorem ly_shl3 {w : Nat} (h : w < 65536) : nI w <<< ((3 : Int32) &&& 31) = nI (w * 8) := pk_shlN (n := w) _ 3 ly_s3 (by omega)
theorem ly_shr3 {w : Nat} (h : w < 524288) : nI w >>> ((3 : Int32) &&& 31) = nI (w / 8) := pk_shrN (n := w) (by omega) _ 3 ly_s3
theorem ly_key_l {post : Int32 → Prop} {n w : Nat} (h : ly_Rw n w) (p : post (nI (7 * (w * 8 ^ (6 - n)) + n))) : ∀ d i, i + d = 6 - n → wX_orderKey_6 post (d + 1) (nI (w * 8 ^ i)) (nI i) (nI i) := by
  intro d
  induction d with
  | zero =>
    intro i hi
    obtain rfl : i = 6 - n := by omega
    have hF := ly_F_lo h
    have hn := h.1
    have p' : wX_orderKey_31 post (nI (w * 8 ^ (6 - n))) (nI (6 - n)) := by
      show post (((nI (w * 8 ^ (6 - n)) * nI 7) + nI 6) - nI (6 - n))
      rw [pk_mul, nI_add, pk_sub (by omega), show w * 8 ^ (6 - n) * 7 + 6 - (6 - n) = 7 * (w * 8 ^ (6 - n)) + n from by omega]
      exact p
    exact br_c (fun _ => p') (fun _ => br_t (nI_le (a := 262144) hF.1 (by omega)) p')
  | succ d ih =>
    intro i hi
    have hF := ly_F_hi (i := i) h (by omega)
    refine br_f (nI_ge (b := 6) (by omega) (by omega)) (br_f (nI_ge (b := 262144) (by omega) (by omega)) ?_)
    have e : nI (w * 8 ^ i) <<< ((3 : Int32) &&& 31) = nI (w * 8 ^ (i + 1)) := (ly_shl3 hF).trans (congrArg nI (by rw [Nat.pow_succ, Nat.mul_assoc]))
    exact nm_r e (nm_r (nI_1 i) (nm_r (nI_1 i) (ih (i + 1) (by omega))))
theorem ly_key {post : Int32 → Prop} {w : Nat} (h : ly_Row w) (p : post (nI (ly_K w))) : wpX_orderKey post (nI w) := by
  have h2 := ly_key_l h p (6 - ly_nl w) 0 (by omega)
  rw [Nat.pow_zero, Nat.mul_one] at h2
  exact Exists.intro _ h2
