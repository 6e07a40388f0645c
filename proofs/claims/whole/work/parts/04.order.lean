/-! letter, before -/
theorem ly_s3k : ∀ k, k < 7 → ((((3 : Int32) * nI k) &&& 31).toBitVec.smod 32).toNat = 3 * k := by decide +kernel
theorem ly_shrk {w k : Nat} (h : w < 524288) (hk : k < 7) : nI w >>> (((3 : Int32) * nI k) &&& 31) = nI (w / 8 ^ k) := by
  rw [pk_shrN (n := w) (by omega) _ (3 * k) (ly_s3k k hk), Nat.pow_mul]
def ly_le (n w i : Nat) : Int32 := if i < n then nI (w / 8 ^ (n - 1 - i) % 8) else -1
theorem ly_letter {post : Int32 → Prop} {v : SY} {n w i : Nat} (h : ly_Rw n w) (hi : i < 6) (p : post (ly_le n w i)) : wpY_letter post v (nI w) (nI i) := by
  obtain ⟨c, a, b⟩ := v
  have hn := h.1
  have hl := ly_rw_lt h
  unfold wpY_letter; dsimp only
  refine ly_letters_y h ?_
  by_cases hin : i < n
  · refine br_f (nI_ge hin (by omega)) ?_
    rw [show (1 : Int32) = nI 1 from rfl, pk_sub (by omega), pk_sub (by omega), ly_shrk hl.2 (by omega)]
    have hd : w / 8 ^ (n - 1 - i) ≤ w := Nat.div_le_self _ _
    rw [pk_andN (n := w / 8 ^ (n - 1 - i)) (by omega) (m := 7) 3 (by decide)]
    unfold ly_le at p; rw [if_pos hin] at p; exact p
  · refine br_t (nI_le (by omega) (by omega)) ?_
    unfold ly_le at p; rw [if_neg hin] at p; exact p
theorem ly_let_F {n w i : Nat} (hn : n ≤ 6) (hi : i < n) : w / 8 ^ (n - 1 - i) = w * 8 ^ (6 - n) / 8 ^ (5 - i) := by
  rw [show 5 - i = n - 1 - i + (6 - n) from by omega, Nat.pow_add, Nat.mul_div_mul_right _ _ (Nat.pos_of_ne_zero (by intro z; simp at z))]
theorem ly_F_dv {n w i : Nat} (hi : n ≤ i) : w * 8 ^ (6 - n) = 8 ^ (6 - i) * (w * 8 ^ (6 - n) / 8 ^ (6 - i)) :=
  (Nat.mul_div_cancel' (Nat.dvd_mul_left_of_dvd (Nat.pow_dvd_pow 8 (by omega)) w)).symm
theorem ly_m1lt {k : Nat} (h : k < 8) : ¬ nI k ≤ -1 := by
  rcases (show k = 0 ∨ k = 1 ∨ k = 2 ∨ k = 3 ∨ k = 4 ∨ k = 5 ∨ k = 6 ∨ k = 7 from by omega) with rfl | rfl | rfl | rfl | rfl | rfl | rfl | rfl <;> decide
theorem ly_m1ne {k : Nat} (h : k < 8) : ¬ nI k = -1 := fun e => ly_m1lt h (by rw [e]; exact Int32.le_refl _)
theorem ly_m1le {k : Nat} (h : k < 8) : -1 ≤ nI k := by
  rcases (show k = 0 ∨ k = 1 ∨ k = 2 ∨ k = 3 ∨ k = 4 ∨ k = 5 ∨ k = 6 ∨ k = 7 from by omega) with rfl | rfl | rfl | rfl | rfl | rfl | rfl | rfl <;> decide
theorem ly_lt_div {a b e : Nat} (h : a / e < b / e) : a < b := by
  rcases Nat.lt_or_ge a b with h1 | h1
  · exact h1
  · have := Nat.div_le_div_right (c := e) h1
    omega
theorem ly_before_l {post : Int32 → Prop} {c : Int32} {a b : Nat → Int32} {n m w v F G : Nat} (hw : ly_Rw n w) (hv : ly_Rw m v) (hF : F = w * 8 ^ (6 - n)) (hG : G = v * 8 ^ (6 - m))
    (p1 : 7 * F + n < 7 * G + m → post 1) (p0 : ¬ 7 * F + n < 7 * G + m → post 0) :
    ∀ d i, i + d = 6 → F / 8 ^ (6 - i) = G / 8 ^ (6 - i) → ((n < i ∨ m < i) → n = m) → wY_before_2 post (nI w) (nI v) c a b (d + 1) (nI i) := by
  have hn := hw.1
  have hm := hv.1
  intro d
  induction d with
  | zero =>
    intro i hi e1 e2
    obtain rfl : i = 6 := by omega
    rw [show 6 - 6 = 0 from rfl, Nat.pow_zero, Nat.div_one, Nat.div_one] at e1
    have : n = m := by
      rcases (show n < 6 ∨ m < 6 ∨ n = m from by omega) with z | z | z
      · exact e2 (Or.inl z)
      · exact e2 (Or.inr z)
      · exact z
    exact br_t (nI_le (a := 6) (by omega) (by omega)) (p0 (by omega))
  | succ d ih =>
    intro i hi e1 e2
    refine br_f (nI_ge (b := 6) (by omega) (by omega)) (ly_letter hw (by omega) (ly_letter hv (by omega) ?_))
    have e8 : 8 ^ (6 - i) = 8 ^ (5 - i) * 8 := by rw [show 6 - i = 5 - i + 1 from by omega, Nat.pow_succ]
    have e1' := e1
    rw [e8, ← Nat.div_div_eq_div_mul, ← Nat.div_div_eq_div_mul] at e1'
    by_cases h1 : i < n
    · by_cases h2 : i < m
      · have lw : ly_le n w i = nI (F / 8 ^ (5 - i) % 8) := by unfold ly_le; rw [if_pos h1, ly_let_F hn h1, hF]
        have lv : ly_le m v i = nI (G / 8 ^ (5 - i) % 8) := by unfold ly_le; rw [if_pos h2, ly_let_F hm h2, hG]
        rw [lw, lv]
        have x1 : F / 8 ^ (5 - i) < G / 8 ^ (5 - i) → F < G := ly_lt_div
        have x2 : G / 8 ^ (5 - i) < F / 8 ^ (5 - i) → G < F := ly_lt_div
        refine pk_eq (F / 8 ^ (5 - i) % 8) (G / 8 ^ (5 - i) % 8) (fun e => nm_r (nI_1 i) (ih (i + 1) (by omega) ?_ ?_)) (fun ne => pk_le (G / 8 ^ (5 - i) % 8) (F / 8 ^ (5 - i) % 8) (fun l => p0 ?_) (fun l => p1 ?_))
        · rw [show 6 - (i + 1) = 5 - i from by omega]; omega
        · intro z; omega
        · have := x2 (by omega); omega
        · have := x1 (by omega); omega
      · have lw : ly_le n w i = nI (F / 8 ^ (5 - i) % 8) := by unfold ly_le; rw [if_pos h1, ly_let_F hn h1, hF]
        have lv : ly_le m v i = -1 := by unfold ly_le; rw [if_neg h2]
        rw [lw, lv]
        have k8 : F / 8 ^ (5 - i) % 8 < 8 := Nat.mod_lt _ (by omega)
        refine br_f (ly_m1ne k8) (br_t (ly_m1le k8) (p0 ?_))
        have d := ly_F_dv (w := v) (n := m) (i := i) (by omega)
        rw [← hG, ← e1] at d
        have := Nat.mul_div_le F (8 ^ (6 - i))
        omega
    · have lw : ly_le n w i = -1 := by unfold ly_le; rw [if_neg h1]
      have dF := ly_F_dv (w := w) (n := n) (i := i) (by omega)
      rw [← hF] at dF
      by_cases h2 : i < m
      · have lv : ly_le m v i = nI (G / 8 ^ (5 - i) % 8) := by unfold ly_le; rw [if_pos h2, ly_let_F hm h2, hG]
        rw [lw, lv]
        have k8 : G / 8 ^ (5 - i) % 8 < 8 := Nat.mod_lt _ (by omega)
        refine br_f (fun z => ly_m1ne k8 z.symm) (br_f (ly_m1lt k8) (p1 ?_))
        rw [e1] at dF
        have := Nat.mul_div_le G (8 ^ (6 - i))
        omega
      · have lv : ly_le m v i = -1 := by unfold ly_le; rw [if_neg h2]
        rw [lw, lv]
        have dG := ly_F_dv (w := v) (n := m) (i := i) (by omega)
        rw [← hG, ← e1, ← dF] at dG
        refine br_t rfl (nm_r (nI_1 i) (ih (i + 1) (by omega) (by rw [dG]) ?_))
        intro _
        rcases (show n < i ∨ m < i ∨ n = m from by omega) with z | z | z
        · exact e2 (Or.inl z)
        · exact e2 (Or.inr z)
        · exact z
theorem ly_before {post : Int32 → Prop} {u : SY} {w v : Nat} (hw : ly_Row w) (hv : ly_Row v) (p1 : ly_K w < ly_K v → post 1) (p0 : ¬ ly_K w < ly_K v → post 0) : wpY_before post u (nI w) (nI v) := by
  obtain ⟨c, a, b⟩ := u
  refine Exists.intro 7 (ly_before_l hw hv rfl rfl p1 p0 6 0 rfl ?_ (fun z => by omega))
  have h1 := ly_F_lo hw
  have h2 := ly_F_lo hv
  simp only [Nat.reduceSub, Nat.reducePow]
  omega
/-! isBeginning, begins -/
theorem ly_wll {post : Int32 → Prop} {w : Nat} (h : w < 524288) (p : post (nI (w / 8))) : wpX_withoutLastLetter post (nI w) := by
  unfold wpX_withoutLastLetter
  rw [ly_shr3 h]; exact p
theorem ly_isBeg_l {post : Int32 → Prop} {r w : Nat} (hr : r < 524288) (hw : w < 524288) (p1 : ly_bg r w = true → post 1) (p0 : ¬ ly_bg r w = true → post 0) :
    ∀ d i, i + d = 6 → (∀ k, k < i → w / 8 ^ k ≠ r) → wX_isBeginning_4 post (nI r) (d + 1) (nI (w / 8 ^ i)) (nI i) := by
  have hle : ∀ i, w / 8 ^ i ≤ w := fun i => Nat.div_le_self _ _
  intro d
  induction d with
  | zero =>
    intro i hi hn
    obtain rfl : i = 6 := by omega
    have := hle 6
    refine br_t (nI_le (a := 6) (by omega) (by omega)) (pk_eq (w / 8 ^ 6) r (fun e => p1 (ly_bg_iff.mpr ⟨6, by omega, e⟩)) (fun ne => p0 fun z => ?_) rfl rfl (by omega) (by omega))
    obtain ⟨k, hk, e⟩ := ly_bg_iff.mp z
    rcases Nat.lt_or_ge k 6 with h | h
    · exact hn k h e
    · rw [show k = 6 from by omega] at e; exact ne e
  | succ d ih =>
    intro i hi hn
    have := hle i
    refine br_f (nI_ge (b := 6) (by omega) (by omega)) (pk_le (w / 8 ^ i) r (fun l => ?_) (fun l => ly_wll (by omega) ?_) rfl rfl (by omega) (by omega))
    · refine pk_eq (w / 8 ^ i) r (fun e => p1 (ly_bg_iff.mpr ⟨i, by omega, e⟩)) (fun ne => p0 fun z => ?_) rfl rfl (by omega) (by omega)
      obtain ⟨k, hk, e⟩ := ly_bg_iff.mp z
      rcases Nat.lt_or_ge k i with h | h
      · exact hn k h e
      · have h8 : 8 ^ i ≤ 8 ^ k := Nat.pow_le_pow_right (by omega) h
        have : w / 8 ^ k ≤ w / 8 ^ i := Nat.div_le_div_left h8 (Nat.pos_of_ne_zero (by intro z; simp at z))
        omega
    · refine nm_r (nI_1 i) ?_
      rw [Nat.div_div_eq_div_mul, ← Nat.pow_succ]
      refine ih (i + 1) (by omega) (fun k hk => ?_)
      rcases Nat.lt_or_ge k i with h | h
      · exact hn k h
      · rw [show k = i from by omega]; omega
theorem ly_isBeg {post : Int32 → Prop} {r w : Nat} (hr : ly_Row r) (hw : ly_Row w) (p1 : ly_bg r w = true → post 1) (p0 : ¬ ly_bg r w = true → post 0) : wpX_isBeginning post (nI r) (nI w) := by
  have h := ly_isBeg_l (ly_rw_lt hr).2 (ly_rw_lt hw).2 p1 p0 6 0 rfl (fun k hk => by omega)
  rw [Nat.pow_zero, Nat.div_one] at h
  exact Exists.intro _ h
theorem ly_begins {post : Int32 → Prop} {v : SY} {r w : Nat} (hr : ly_Row r) (hw : ly_Row w) (p1 : ly_bg r w = true → post 1) (p0 : ¬ ly_bg r w = true → post 0) : wpY_begins post v (nI r) (nI w) := by
  obtain ⟨c, a, b⟩ := v
  have hn := hr.1
  have hm := hw.1
  have hl := ly_rw_lt hw
  have hlr := ly_rw_lt hr
  unfold wpY_begins; dsimp only
  refine ly_letters_y hr (ly_letters_y hw ?_)
  refine pk_lt (ly_nl w) (ly_nl r) (fun l => p0 fun z => ?_) (fun l => ?_) rfl rfl (by omega) (by omega)
  · have := ((ly_bg_let hr hw).mp z).1
    omega
  · rw [pk_sub l, ly_shrk hl.2 (by omega)]
    have hd : w / 8 ^ (ly_nl w - ly_nl r) ≤ w := Nat.div_le_self _ _
    exact pk_eq _ _ (fun e => p1 ((ly_bg_let hr hw).mpr ⟨l, e⟩)) (fun ne => p0 fun z => ne ((ly_bg_let hr hw).mp z).2) rfl rfl (by omega) (by omega)
/-! sharedBeginning -/
def ly_Meet (l r Q : Nat) : Prop := ly_Row Q ∧ ∀ q, ly_Row q → (ly_bg q Q = true ↔ ly_bg q l = true ∧ ly_bg q r = true)
theorem ly_shared_l {post : Int32 → Prop} : ∀ d i n m l r, i + d = 12 → ly_Rw n l → ly_Rw m r → n + m ≤ d → (∀ Q, ly_Meet l r Q → post (nI Q)) → wX_sharedBeginning_7 post (d + 1) (nI l) (nI r) (nI i) := by
  intro d
  induction d with
  | zero =>
    intro i n m l r hi hl hr hd p
    obtain rfl : n = 0 := by omega
    obtain rfl : m = 0 := by omega
    refine br_t (nI_le (a := 12) (by omega) (by omega)) (p l ⟨ly_row_of hl, fun q _ => ?_⟩)
    rw [ly_rw0 hl, ly_rw0 hr]
    exact (and_self_iff).symm
  | succ d ih =>
    intro i n m l r hi hl hr hd p
    have hl' := ly_rw_lt hl
    have hr' := ly_rw_lt hr
    refine br_f (nI_ge (b := 12) (by omega) (by omega)) (pk_eq l r (fun e => p l ⟨ly_row_of hl, fun q _ => ?_⟩) (fun ne => pk_le l r (fun le => ly_wll hr'.2 (nm_r (nI_1 i) ?_)) (fun lt => ly_wll hl'.2 (nm_r (nI_1 i) ?_)) rfl rfl (by omega) (by omega)) rfl rfl (by omega) (by omega))
    · rw [e]; exact (and_self_iff).symm
    · cases m with
      | zero => have := ly_rw0 hr; omega
      | succ m =>
        refine ih (i + 1) n m l (r / 8) (by omega) hl (ly_rw_div hr) (by omega) (fun Q hQ => p Q ⟨hQ.1, fun q hq => (hQ.2 q hq).trans ⟨fun z => ⟨z.1, ly_bg_up (ly_rw_lt hq).1 hr'.2 z.2⟩, fun z => ⟨z.1, ly_bg_down z.2 ?_⟩⟩⟩)
        have := ly_bg_le z.1
        omega
    · cases n with
      | zero => have := ly_rw0 hl; omega
      | succ n =>
        refine ih (i + 1) n m (l / 8) r (by omega) (ly_rw_div hl) hr (by omega) (fun Q hQ => p Q ⟨hQ.1, fun q hq => (hQ.2 q hq).trans ⟨fun z => ⟨ly_bg_up (ly_rw_lt hq).1 hl'.2 z.1, z.2⟩, fun z => ⟨ly_bg_down z.1 ?_, z.2⟩⟩⟩)
        have := ly_bg_le z.2
        omega
theorem ly_shared {post : Int32 → Prop} {l r : Nat} (hl : ly_Row l) (hr : ly_Row r) (p : ∀ Q, ly_Meet l r Q → post (nI Q)) : wpX_sharedBeginning post (nI l) (nI r) := by
  have h1 := hl.1
  have h2 := hr.1
  exact Exists.intro 13 (ly_shared_l 12 0 _ _ l r rfl hl hr (by omega) p)
