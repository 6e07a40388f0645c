section
theorem pk_us {f : Nat → Int32} {k : Nat} {x : Int32} : upd f k x k = x := if_pos rfl
theorem pk_un {f : Nat → Int32} {k j : Nat} {x : Int32} (h : j ≠ k) : upd f k x j = f j := if_neg h
theorem pk_sub {a b : Nat} (h : b ≤ a) : nI a - nI b = nI (a - b) := by
  obtain ⟨c, rfl⟩ : ∃ c, a = c + b := ⟨a - b, by omega⟩
  rw [← nI_add, Int32.add_sub_cancel, Nat.add_sub_cancel]
theorem pk_m1 (n : Nat) : nI (n + 1) + (-1) = nI n := by
  rw [← nI_1, Int32.add_assoc, show (1 : Int32) + (-1) = 0 from rfl, Int32.add_zero]
theorem pk_mul (a b : Nat) : nI a * nI b = nI (a * b) := (Int32.ofNat_mul a b).symm
theorem pk_div {a d : Nat} (ha : a < 2 ^ 31) (h0 : 0 < d) (hd : d < 2 ^ 31) : nI a / nI d = nI (a / d) := by
  apply Int32.toInt_inj.mp
  rw [lg_idiv_nonneg (by rw [nI_toInt ha]; omega) (by rw [nI_toInt hd]; omega), nI_toInt ha, nI_toInt hd, nI_toInt (Nat.lt_of_le_of_lt (Nat.div_le_self a d) ha)]
  first | rfl | exact (Int.natCast_ediv _ _).symm
theorem pk_rem {a d : Nat} (ha : a < 2 ^ 31) (h0 : 0 < d) (hd : d < 2 ^ 31) : nI a - nI a / nI d * nI d = nI (a % d) := by
  rw [pk_div ha h0 hd, pk_mul, pk_sub (Nat.div_mul_le_self a d)]
  exact congrArg nI (by have := Nat.div_add_mod' a d; omega)
theorem pk_ix (x : Int32) {n : Nat} (hn : n < 2 ^ 31) : x < 0 ∨ nI n ≤ x ∨ ∃ j : Nat, j < n ∧ x = nI j := by
  by_cases h : x < 0
  · exact Or.inl h
  · obtain ⟨j, hj, rfl⟩ := nI_of h
    by_cases h2 : j < n
    · exact Or.inr (Or.inr ⟨j, h2, rfl⟩)
    · exact Or.inr (Or.inl (nI_le (by omega) hj))
theorem pk_le {x y : Int32} {A B : Prop} (a b : Nat) (f : a ≤ b → A) (g : b < a → B) (hx : x = nI a := by rfl) (hy : y = nI b := by rfl) (ha : a < 2 ^ 31 := by omega) (hb : b < 2 ^ 31 := by omega) : (x ≤ y → A) ∧ (¬ x ≤ y → B) := by
  subst hx hy
  rw [nI_leI ha hb]
  exact ⟨f, fun z => g (by omega)⟩
theorem pk_lt {x y : Int32} {A B : Prop} (a b : Nat) (f : a < b → A) (g : b ≤ a → B) (hx : x = nI a := by rfl) (hy : y = nI b := by rfl) (ha : a < 2 ^ 31 := by omega) (hb : b < 2 ^ 31 := by omega) : (x < y → A) ∧ (¬ x < y → B) := by
  subst hx hy
  rw [nI_ltI ha hb]
  exact ⟨f, fun z => g (by omega)⟩
theorem pk_eq {x y : Int32} {A B : Prop} (a b : Nat) (f : a = b → A) (g : a ≠ b → B) (hx : x = nI a := by rfl) (hy : y = nI b := by rfl) (ha : a < 2 ^ 31 := by omega) (hb : b < 2 ^ 31 := by omega) : (x = y → A) ∧ (¬ x = y → B) := by
  subst hx hy
  rw [nI_eq ha hb]
  exact ⟨f, g⟩
theorem pk_in {x : Int32} (n N : Nat) (h : n < N) (hx : x = nI n := by rfl) (hN : N < 2 ^ 31 := by omega) : vp_in x N := by
  subst hx
  exact vp_in_nI h hN
theorem pk_cl {x : Int32} (n : Nat) (hx : x = nI n := by rfl) (h : n < 2 ^ 31 := by omega) : x.toNatClampNeg = n := by
  subst hx
  exact nI_clamp h
theorem pk_tn {n : Nat} (h : n < 2 ^ 32) : (nI n).toBitVec.toNat = n := Nat.mod_eq_of_lt h
theorem pk_and (x : Int32) {m : Int32} (k : Nat) (hm : m.toBitVec.toNat = 2 ^ k - 1) : x &&& m = nI (x.toBitVec.toNat % 2 ^ k) := by
  apply Int32.toBitVec_inj.mp
  apply BitVec.eq_of_toNat_eq
  rw [Int32.toBitVec_and, BitVec.toNat_and, hm, Nat.and_two_pow_sub_one_eq_mod]
  show _ = (BitVec.ofNat 32 _).toNat
  rw [BitVec.toNat_ofNat]
  exact (Nat.mod_eq_of_lt (Nat.lt_of_le_of_lt (Nat.mod_le _ _) x.toBitVec.isLt)).symm
theorem pk_andN {n : Nat} (h : n < 2 ^ 32) {m : Int32} (k : Nat) (hm : m.toBitVec.toNat = 2 ^ k - 1) : nI n &&& m = nI (n % 2 ^ k) := by
  rw [pk_and _ k hm, pk_tn h]
theorem pk_shl (a s : Int32) (k : Nat) (hs : (s.toBitVec.smod 32).toNat = k) : (a <<< s).toBitVec.toNat = a.toBitVec.toNat * 2 ^ k % 2 ^ 32 := by
  show (a.toBitVec <<< (s.toBitVec.smod 32).toNat).toNat = _
  rw [hs, BitVec.toNat_shiftLeft, Nat.shiftLeft_eq]
theorem pk_shlN {n : Nat} (s : Int32) (k : Nat) (hs : (s.toBitVec.smod 32).toNat = k) (h : n * 2 ^ k < 2 ^ 32) : nI n <<< s = nI (n * 2 ^ k) := by
  apply Int32.toBitVec_inj.mp
  apply BitVec.eq_of_toNat_eq
  have hn : n < 2 ^ 32 := Nat.lt_of_le_of_lt (Nat.le_mul_of_pos_right n (Nat.two_pow_pos k)) h
  rw [pk_shl _ _ k hs, pk_tn hn, pk_tn h, Nat.mod_eq_of_lt h]
theorem pk_shr (a s : Int32) (k : Nat) (hs : (s.toBitVec.smod 32).toNat = k) : (a >>> s).toInt = a.toInt >>> k := by
  show (a.toBitVec.sshiftRight (s.toBitVec.smod 32).toNat).toInt = _
  rw [hs, BitVec.toInt_sshiftRight]
  rfl
theorem pk_shrN {n : Nat} (h : n < 2 ^ 31) (s : Int32) (k : Nat) (hs : (s.toBitVec.smod 32).toNat = k) : nI n >>> s = nI (n / 2 ^ k) := by
  apply Int32.toInt_inj.mp
  have h2 : n / 2 ^ k ≤ n := Nat.div_le_self _ _
  rw [pk_shr _ _ k hs, nI_toInt h, nI_toInt (by omega), Int.shiftRight_eq_div_pow]
  rfl
end
section
/-- w is a row of n letters -/
def ly_Rw (n w : Nat) : Prop := n ≤ 6 ∧ 8 ^ n ≤ w ∧ w < 2 * 8 ^ n
def ly_nl (w : Nat) : Nat := if w < 8 then 0 else if w < 64 then 1 else if w < 512 then 2 else if w < 4096 then 3 else if w < 32768 then 4 else if w < 262144 then 5 else 6
def ly_Row (w : Nat) : Prop := ly_Rw (ly_nl w) w
def ly_Word (w : Nat) : Prop := ly_Row w ∧ 1 ≤ ly_nl w
/-- the order's key, and the end of the keys that a row begins -/
def ly_K (w : Nat) : Nat := 7 * (w * 8 ^ (6 - ly_nl w)) + ly_nl w
def ly_E (w : Nat) : Nat := 7 * ((w + 1) * 8 ^ (6 - ly_nl w))
def ly_bg (r w : Nat) : Bool := (List.range 7).any (fun k => w / 8 ^ k == r)
theorem ly_c7 {n : Nat} (h : n ≤ 6) : n = 0 ∨ n = 1 ∨ n = 2 ∨ n = 3 ∨ n = 4 ∨ n = 5 ∨ n = 6 := by omega
theorem ly_nl_of {n w : Nat} (h : ly_Rw n w) : ly_nl w = n := by
  obtain ⟨hn, h1, h2⟩ := h
  unfold ly_nl
  rcases ly_c7 hn with rfl | rfl | rfl | rfl | rfl | rfl | rfl <;> simp only [Nat.reducePow] at h1 h2 <;> (repeat' split) <;> omega
theorem ly_row_of {n w : Nat} (h : ly_Rw n w) : ly_Row w := by unfold ly_Row; rw [ly_nl_of h]; exact h
theorem ly_rw_lt {n w : Nat} (h : ly_Rw n w) : 1 ≤ w ∧ w < 524288 := by
  obtain ⟨hn, h1, h2⟩ := h
  rcases ly_c7 hn with rfl | rfl | rfl | rfl | rfl | rfl | rfl <;> simp only [Nat.reducePow] at h1 h2 <;> omega
theorem ly_rw_uni {n m w : Nat} (h : ly_Rw n w) (h' : ly_Rw m w) : n = m := (ly_nl_of h).symm.trans (ly_nl_of h')
theorem ly_rw_div {n w : Nat} (h : ly_Rw (n + 1) w) : ly_Rw n (w / 8) := by
  obtain ⟨hn, h1, h2⟩ := h
  rw [Nat.pow_succ] at h1 h2
  exact ⟨by omega, by omega, by omega⟩
theorem ly_rw_divk {n w : Nat} (h : ly_Rw n w) : ∀ k, k ≤ n → ly_Rw (n - k) (w / 8 ^ k) := by
  intro k
  induction k with
  | zero => intro _; rw [Nat.pow_zero, Nat.div_one]; exact h
  | succ k ih =>
    intro hk
    have h2 := ih (by omega)
    rw [Nat.pow_succ, ← Nat.div_div_eq_div_mul]
    apply ly_rw_div
    rw [show n - (k + 1) + 1 = n - k from by omega]
    exact h2
theorem ly_bg_iff {r w : Nat} : ly_bg r w = true ↔ ∃ k, k < 7 ∧ w / 8 ^ k = r := by
  simp only [ly_bg, List.any_eq_true, List.mem_range, beq_iff_eq]
theorem ly_bg_le {r w : Nat} (h : ly_bg r w = true) : r ≤ w := by
  obtain ⟨k, _, e⟩ := ly_bg_iff.mp h
  rw [← e]; exact Nat.div_le_self _ _
theorem ly_bg_refl (w : Nat) : ly_bg w w = true := ly_bg_iff.mpr ⟨0, by omega, by rw [Nat.pow_zero, Nat.div_one]⟩
theorem ly_bg_let {n m r w : Nat} (hr : ly_Rw n r) (hw : ly_Rw m w) : ly_bg r w = true ↔ n ≤ m ∧ w / 8 ^ (m - n) = r := by
  rw [ly_bg_iff]
  constructor
  · rintro ⟨k, hk, e⟩
    have hkm : k ≤ m := by
      rcases Nat.lt_or_ge m k with h | h
      · exfalso
        have h1 : 8 ^ (m + 1) ≤ 8 ^ k := Nat.pow_le_pow_right (by omega) h
        rw [Nat.pow_succ] at h1
        have h2 := hw.2.2
        have h3 : 0 < 8 ^ m := Nat.pos_of_ne_zero (by intro z; simp at z)
        have h4 : w / 8 ^ k = 0 := Nat.div_eq_of_lt (by omega)
        have := (ly_rw_lt hr).1
        omega
      · exact h
    have h2 := ly_rw_divk hw k hkm
    rw [e] at h2
    have := ly_rw_uni hr h2
    refine ⟨by omega, ?_⟩
    rw [show m - n = k from by omega]; exact e
  · rintro ⟨h, e⟩
    have := hw.1
    exact ⟨m - n, by omega, e⟩
theorem ly_bg_trans {a b c : Nat} (ha : ly_Row a) (hb : ly_Row b) (hc : ly_Row c) (h : ly_bg a b = true) (h' : ly_bg b c = true) : ly_bg a c = true := by
  rw [ly_bg_let ha hb] at h
  rw [ly_bg_let hb hc] at h'
  rw [ly_bg_let ha hc]
  clear ha hb hc
  generalize ly_nl a = x at *
  generalize ly_nl b = y at *
  generalize ly_nl c = z at *
  refine ⟨by omega, ?_⟩
  rw [← h.2, ← h'.2, Nat.div_div_eq_div_mul, ← Nat.pow_add, show z - y + (y - x) = z - x from by omega]
theorem ly_bg_down {q w : Nat} (h : ly_bg q w = true) (hn : q ≠ w) : ly_bg q (w / 8) = true := by
  obtain ⟨k, hk, e⟩ := ly_bg_iff.mp h
  cases k with
  | zero => rw [Nat.pow_zero, Nat.div_one] at e; exact absurd e.symm hn
  | succ k =>
    refine ly_bg_iff.mpr ⟨k, by omega, ?_⟩
    rw [Nat.div_div_eq_div_mul, Nat.mul_comm, ← Nat.pow_succ]; exact e
theorem ly_bg_up {q w : Nat} (hq : 1 ≤ q) (hw : w < 524288) (h : ly_bg q (w / 8) = true) : ly_bg q w = true := by
  obtain ⟨k, hk, e⟩ := ly_bg_iff.mp h
  rw [Nat.div_div_eq_div_mul, Nat.mul_comm, ← Nat.pow_succ] at e
  refine ly_bg_iff.mpr ⟨k + 1, ?_, e⟩
  rcases Nat.lt_or_ge k 6 with h6 | h6
  · omega
  · exfalso
    obtain rfl : k = 6 := by omega
    have e2 : w / 8 ^ 7 = q := e
    have : w / 8 ^ 7 = 0 := Nat.div_eq_of_lt (by simp only [Nat.reducePow]; omega)
    omega
theorem ly_bg_1 {w : Nat} (hw : ly_Row w) : ly_bg 1 w = true := by
  have h1 : ly_Rw 0 1 := ⟨by omega, by decide, by decide⟩
  rw [ly_bg_let h1 hw]
  refine ⟨by omega, ?_⟩
  have h := ly_rw_divk hw (ly_nl w) (Nat.le_refl _)
  rw [Nat.sub_self] at h
  have h2 := h.2.1
  have h3 := h.2.2
  rw [Nat.sub_zero]
  simp only [Nat.reducePow] at h2 h3
  omega
theorem ly_bg_KK {n m r w : Nat} (hr : ly_Rw n r) (hw : ly_Rw m w) : (n ≤ m ∧ w / 8 ^ (m - n) = r) ↔ (7 * (r * 8 ^ (6 - n)) + n ≤ 7 * (w * 8 ^ (6 - m)) + m ∧ 7 * (w * 8 ^ (6 - m)) + m < 7 * ((r + 1) * 8 ^ (6 - n))) := by
  obtain ⟨hn, h1, h2⟩ := hr
  obtain ⟨hm, h3, h4⟩ := hw
  rcases ly_c7 hn with rfl | rfl | rfl | rfl | rfl | rfl | rfl <;> rcases ly_c7 hm with rfl | rfl | rfl | rfl | rfl | rfl | rfl <;> simp only [Nat.reduceSub, Nat.reducePow] at h1 h2 h3 h4 ⊢ <;> omega
theorem ly_bg_K {r w : Nat} (hr : ly_Row r) (hw : ly_Row w) : ly_bg r w = true ↔ ly_K r ≤ ly_K w ∧ ly_K w < ly_E r := (ly_bg_let hr hw).trans (ly_bg_KK hr hw)
theorem ly_K_E {r : Nat} (hr : ly_Row r) : ly_K r < ly_E r := ((ly_bg_K hr hr).mp (ly_bg_refl r)).2
theorem ly_K_inj {r w : Nat} (hr : ly_Row r) (hw : ly_Row w) (h : ly_K r = ly_K w) : r = w := by
  have h1 := ly_bg_le ((ly_bg_K hr hw).mpr ⟨Nat.le_of_eq h, by rw [← h]; exact ly_K_E hr⟩)
  have h2 := ly_bg_le ((ly_bg_K hw hr).mpr ⟨Nat.le_of_eq h.symm, by rw [h]; exact ly_K_E hw⟩)
  omega
theorem ly_rwK {n w : Nat} (h : ly_Rw n w) : 7 * (w * 8 ^ (6 - n)) + n < 4000000 := by
  obtain ⟨hn, h1, h2⟩ := h
  rcases ly_c7 hn with rfl | rfl | rfl | rfl | rfl | rfl | rfl <;> simp only [Nat.reduceSub, Nat.reducePow] at h1 h2 ⊢ <;> omega
theorem ly_K_lt {w : Nat} (h : ly_Row w) : ly_K w < 4000000 := ly_rwK h
end
section
theorem ly_p8 {j : Nat} (h : j ≤ 6) : 1 ≤ 8 ^ j ∧ 8 ^ j ≤ 262144 := by
  rcases ly_c7 h with rfl | rfl | rfl | rfl | rfl | rfl | rfl <;> decide
def ly_In (j : Nat) (x : Int32) : Prop := nI (8 ^ j) ≤ x ∧ x < nI (2 * 8 ^ j)
def ly_Bad (x : Int32) : Prop := ∀ j, j ≤ 6 → ¬ ly_In j x
def ly_NW (x : Int32) : Prop := ly_Bad x ∨ x = nI 1
theorem ly_in_rw {j : Nat} {x : Int32} (hj : j ≤ 6) (h : ly_In j x) : ∃ w, ly_Rw j w ∧ x = nI w := by
  have hp := ly_p8 hj
  have h0 : ¬ x < 0 := Int32.not_lt.mpr (Int32.le_trans (nI_pos' (by omega)) h.1)
  obtain ⟨w, hw, rfl⟩ := nI_of h0
  exact ⟨w, ⟨hj, (nI_leI (by omega) hw).mp h.1, (nI_ltI hw (by omega)).mp h.2⟩, rfl⟩
theorem ly_rw_in {j w : Nat} (h : ly_Rw j w) : ly_In j (nI w) := by
  have hp := ly_p8 h.1
  have hl := ly_rw_lt h
  exact ⟨nI_le h.2.1 (by omega), nI_lt h.2.2 (by omega)⟩
theorem ly_in_uni {n j w : Nat} (h : ly_Rw n w) (hj : j ≤ 6) (hi : ly_In j (nI w)) : j = n := by
  obtain ⟨w', h', e⟩ := ly_in_rw hj hi
  have h1 := ly_rw_lt h
  have h2 := ly_rw_lt h'
  rw [nI_eq (by omega) (by omega)] at e
  subst e
  exact ly_rw_uni h' h
theorem ly_rw1 : ly_Rw 0 1 := ⟨by omega, by decide, by decide⟩
theorem ly_row1 : ly_Row 1 := ly_row_of ly_rw1
theorem ly_rw0 {w : Nat} (h : ly_Rw 0 w) : w = 1 := by
  have h1 := h.2.1
  have h2 := h.2.2
  simp only [Nat.reducePow] at h1 h2
  omega
theorem ly_word_ge {w : Nat} (h : ly_Word w) : 8 ≤ w ∧ w < 524288 := by
  have h2 := ly_rw_lt h.1
  refine ⟨?_, h2.2⟩
  rcases Nat.lt_or_ge w 8 with h3 | h3
  · have h4 : ly_nl w = 0 := by unfold ly_nl; rw [if_pos h3]
    have := h.2
    omega
  · exact h3
theorem ly_row_word {w : Nat} (h : ly_Row w) (hn : w ≠ 1) : ly_Word w := by
  refine ⟨h, ?_⟩
  rcases Nat.eq_zero_or_pos (ly_nl w) with e | e
  · unfold ly_Row at h; rw [e] at h; exact absurd (ly_rw0 h) hn
  · exact e
theorem ly_csR (x : Int32) : (∃ w, ly_Row w ∧ x = nI w) ∨ ly_Bad x := by
  by_cases h : ∃ j, j ≤ 6 ∧ ly_In j x
  · obtain ⟨j, hj, hi⟩ := h
    obtain ⟨w, hw, e⟩ := ly_in_rw hj hi
    exact Or.inl ⟨w, ly_row_of hw, e⟩
  · exact Or.inr fun j hj hi => h ⟨j, hj, hi⟩
theorem ly_csW (x : Int32) : (∃ w, ly_Word w ∧ x = nI w) ∨ ly_NW x := by
  rcases ly_csR x with ⟨w, hw, e⟩ | h
  · by_cases h1 : w = 1
    · exact Or.inr (Or.inr (by rw [e, h1]))
    · exact Or.inl ⟨w, ly_row_word hw h1, e⟩
  · exact Or.inr (Or.inl h)
theorem ly_NW_ne {x : Int32} (h : ly_NW x) {w : Nat} (hw : ly_Word w) : nI w ≠ x := by
  rintro rfl
  rcases h with h | h
  · exact h _ hw.1.1 (ly_rw_in hw.1)
  · have := ly_word_ge hw
    rw [nI_eq (by omega) (by omega)] at h
    omega
/-! isWord, isRow -/
theorem ly_sh1 : ∀ j, j < 7 → (1 : Int32) <<< ((3 * nI j) &&& 31) = nI (8 ^ j) := by decide +kernel
theorem ly_isWord_l {post : Int32 → Prop} {x : Int32} (h1 : ∀ j, 1 ≤ j → j ≤ 6 → ly_In j x → post 1) (h0 : (∀ j, 1 ≤ j → j ≤ 6 → ¬ ly_In j x) → post 0) : ∀ d j, j + d = 7 → 1 ≤ j → (∀ i, 1 ≤ i → i < j → ¬ ly_In i x) → wX_isWord_2 post x (d + 1) (nI j) := by
  intro d
  induction d with
  | zero =>
    intro j hj _ hn
    exact br_t (nI_lt (a := 6) (by omega) (by omega)) (h0 fun i a b => hn i a (by omega))
  | succ d ih =>
    intro j hj hj1 hn
    refine br_f (nI_nlt (a := 6) (b := j) (by omega) (by omega)) (nm_r (ly_sh1 j (by omega)) ?_)
    have hnext : ¬ ly_In j x → ∀ i, 1 ≤ i → i < j + 1 → ¬ ly_In i x := fun h i a b => by
      rcases Nat.lt_or_ge i j with c | c
      · exact hn i a c
      · rw [show i = j from by omega]; exact h
    have e2 : (2 : Int32) * nI (8 ^ j) = nI (2 * 8 ^ j) := pk_mul 2 _
    by_cases a : x < nI (8 ^ j)
    · exact br_t a (nm_r (nI_1 j) (ih (j + 1) (by omega) (by omega) (hnext fun z => Int32.not_lt.mpr z.1 a)))
    · refine br_f a ?_
      rw [e2]
      by_cases b : nI (2 * 8 ^ j) ≤ x
      · exact br_t b (nm_r (nI_1 j) (ih (j + 1) (by omega) (by omega) (hnext fun z => Int32.not_lt.mpr b z.2)))
      · exact br_f b (h1 j hj1 (by omega) ⟨Int32.not_lt.mp a, Int32.not_le.mp b⟩)
theorem ly_isWord_y {post : Int32 → Prop} {w : Nat} (h : ly_Word w) (p : post 1) : wpX_isWord post (nI w) :=
  Exists.intro 7 (ly_isWord_l (fun _ _ _ _ => p) (fun z => absurd (ly_rw_in h.1) (z _ h.2 h.1.1)) 6 1 rfl (by omega) (fun i a b => by omega))
theorem ly_isWord_n {post : Int32 → Prop} {x : Int32} (h : ly_NW x) (p : post 0) : wpX_isWord post x := by
  have hn : ∀ j, 1 ≤ j → j ≤ 6 → ¬ ly_In j x := by
    rcases h with h | rfl
    · exact fun j _ a => h j a
    · intro j a b c
      have := ly_in_uni ly_rw1 b c
      omega
  exact Exists.intro 7 (ly_isWord_l (fun j a b c => absurd c (hn j a b)) (fun _ => p) 6 1 rfl (by omega) (fun i a b => by omega))
theorem ly_isRow_y {post : Int32 → Prop} {w : Nat} (h : ly_Row w) (p : post 1) : wpX_isRow post (nI w) := by
  by_cases e : w = 1
  · subst e; exact br_t (show nI 1 = 1 from rfl) p
  · have hl := ly_rw_lt h
    exact br_f (fun z => e ((nI_eq (b := 1) (by omega) (by omega)).mp z)) (ly_isWord_y (ly_row_word h e) (br_f (by decide) p))
theorem ly_isRow_n {post : Int32 → Prop} {x : Int32} (h : ly_Bad x) (p : post 0) : wpX_isRow post x := by
  refine br_f ?_ (ly_isWord_n (Or.inl h) (br_t rfl p))
  rintro rfl
  exact h 0 (by omega) (ly_rw_in ly_rw1)
/-! letters, badWord, badRow -/
theorem ly_letters_l {post : Int32 → Prop} {x c : Int32} {a b : Nat → Int32} (h1 : ∀ j, j ≤ 6 → ly_In j x → post (nI j)) (h0 : ly_Bad x → post (-1)) : ∀ d j, j + d = 7 → (∀ i, i < j → ¬ ly_In i x) → wY_letters_4 post x c a b (d + 1) (nI (8 ^ j)) (nI j) := by
  intro d
  induction d with
  | zero =>
    intro j hj hn
    exact br_t (nI_le (a := 7) (by omega) (by omega)) (h0 fun i _ => hn i (by omega))
  | succ d ih =>
    intro j hj hn
    refine br_f (nI_ge (b := 7) (by omega) (by omega)) ?_
    have hnext : ¬ ly_In j x → ∀ i, i < j + 1 → ¬ ly_In i x := fun h i b => by
      rcases Nat.lt_or_ge i j with c | c
      · exact hn i c
      · rw [show i = j from by omega]; exact h
    have e8 : (8 : Int32) * nI (8 ^ j) = nI (8 ^ (j + 1)) := (pk_mul 8 _).trans (congrArg nI (by rw [Nat.pow_succ]; omega))
    have e2 : (2 : Int32) * nI (8 ^ j) = nI (2 * 8 ^ j) := pk_mul 2 _
    by_cases a : x < nI (8 ^ j)
    · exact br_t a (nm_r e8 (nm_r (nI_1 j) (ih (j + 1) (by omega) (hnext fun z => Int32.not_lt.mpr z.1 a))))
    · refine br_f a ?_
      rw [e2]
      by_cases b : nI (2 * 8 ^ j) ≤ x
      · exact br_t b (nm_r e8 (nm_r (nI_1 j) (ih (j + 1) (by omega) (hnext fun z => Int32.not_lt.mpr b z.2))))
      · exact br_f b (h1 j (by omega) ⟨Int32.not_lt.mp a, Int32.not_le.mp b⟩)
theorem ly_letters_y {post : Int32 → Prop} {v : SY} {n w : Nat} (h : ly_Rw n w) (p : post (nI n)) : wpY_letters post v (nI w) := by
  obtain ⟨c, a, b⟩ := v
  exact Exists.intro 8 (ly_letters_l (fun j hj hi => by rw [ly_in_uni h hj hi]; exact p) (fun z => absurd (ly_rw_in h) (z n h.1)) 7 0 rfl (fun i a => by omega))
theorem ly_letters_n {post : Int32 → Prop} {v : SY} {x : Int32} (h : ly_Bad x) (p : post (-1)) : wpY_letters post v x := by
  obtain ⟨c, a, b⟩ := v
  exact Exists.intro 8 (ly_letters_l (fun j hj hi => absurd hi (h j hj)) (fun _ => p) 7 0 rfl (fun i a => by omega))
theorem ly_badWord_y {post : Int32 → Prop} {v : SY} {w : Nat} (h : ly_Word w) (p : post 0) : wpY_badWord post v (nI w) := by
  obtain ⟨c, a, b⟩ := v
  have := h.1.1
  unfold wpY_badWord; dsimp only
  exact ly_letters_y h.1 (br_t (nI_le (a := 1) h.2 (by omega)) p)
theorem ly_badWord_n {post : Int32 → Prop} {v : SY} {x : Int32} (h : ly_NW x) (p : post 1) : wpY_badWord post v x := by
  obtain ⟨c, a, b⟩ := v
  unfold wpY_badWord; dsimp only
  rcases h with h | rfl
  · exact ly_letters_n h (br_f (by decide) p)
  · exact ly_letters_y ly_rw1 (br_f (by decide) p)
theorem ly_badRow_y {post : Int32 → Prop} {v : SY} {w : Nat} (h : ly_Row w) (p : post 0) : wpY_badRow post v (nI w) := by
  obtain ⟨c, a, b⟩ := v
  have := h.1
  unfold wpY_badRow; dsimp only
  exact ly_letters_y h (br_t (nI_pos' (by omega)) p)
theorem ly_badRow_n {post : Int32 → Prop} {v : SY} {x : Int32} (h : ly_Bad x) (p : post 1) : wpY_badRow post v x := by
  obtain ⟨c, a, b⟩ := v
  unfold wpY_badRow; dsimp only
  exact ly_letters_n h (br_f (by decide) p)
/-! orderKey -/
theorem ly_F_lo {n w : Nat} (h : ly_Rw n w) : 262144 ≤ w * 8 ^ (6 - n) ∧ w * 8 ^ (6 - n) < 524288 := by
  obtain ⟨hn, h1, h2⟩ := h
  rcases ly_c7 hn with rfl | rfl | rfl | rfl | rfl | rfl | rfl <;> simp only [Nat.reduceSub, Nat.reducePow] at h1 h2 ⊢ <;> omega
theorem ly_F_hi {n w i : Nat} (h : ly_Rw n w) (hi : i + 1 ≤ 6 - n) : w * 8 ^ i < 65536 := by
  have h3 : w * 8 ^ i ≤ w * 8 ^ (5 - n) := Nat.mul_le_mul_left _ (Nat.pow_le_pow_right (by omega) (by omega))
  obtain ⟨hn, h1, h2⟩ := h
  rcases ly_c7 hn with rfl | rfl | rfl | rfl | rfl | rfl | rfl <;> simp only [Nat.reduceSub, Nat.reducePow] at h1 h2 h3 hi ⊢ <;> omega
theorem ly_s3 : (((3 : Int32) &&& 31).toBitVec.smod 32).toNat = 3 := by decide
theorem ly_shl3 {w : Nat} (h : w < 65536) : nI w <<< ((3 : Int32) &&& 31) = nI (w * 8) := pk_shlN (n := w) _ 3 ly_s3 (by omega)
theorem ly_shr3 {w : Nat} (h : w < 524288) : nI w >>> ((3 : Int32) &&& 31) = nI (w / 8) := pk_shrN (n := w) (by omega) _ 3 ly_s3
theorem ly_key_l {post : Int32 → Prop} {n w : Nat} (h : ly_Rw n w) (p : post (nI (7 * (w * 8 ^ (6 - n)) + n))) : ∀ d i, i + d = 6 - n → wX_orderKey_6 post (d + 1) (nI (w * 8 ^ i)) (nI i) (nI i) := by
  intro d
  induction d with
  | zero =>
    intro i hi
    obtain rfl : i = 6 - n := by omega
    have hF := ly_F_lo h
    have hn := h.1
    have p' : wX_orderKey_31 post (nI (w * 8 ^ (6 - n))) (nI (6 - n)) := by
      show post (((nI (w * 8 ^ (6 - n)) * nI 7) + nI 6) - nI (6 - n))
      rw [pk_mul, nI_add, pk_sub (by omega), show w * 8 ^ (6 - n) * 7 + 6 - (6 - n) = 7 * (w * 8 ^ (6 - n)) + n from by omega]
      exact p
    exact br_c (fun _ => p') (fun _ => br_t (nI_le (a := 262144) hF.1 (by omega)) p')
  | succ d ih =>
    intro i hi
    have hF := ly_F_hi (i := i) h (by omega)
    refine br_f (nI_ge (b := 6) (by omega) (by omega)) (br_f (nI_ge (b := 262144) (by omega) (by omega)) ?_)
    have e : nI (w * 8 ^ i) <<< ((3 : Int32) &&& 31) = nI (w * 8 ^ (i + 1)) := (ly_shl3 hF).trans (congrArg nI (by rw [Nat.pow_succ, Nat.mul_assoc]))
    exact nm_r e (nm_r (nI_1 i) (nm_r (nI_1 i) (ih (i + 1) (by omega))))
theorem ly_key {post : Int32 → Prop} {w : Nat} (h : ly_Row w) (p : post (nI (ly_K w))) : wpX_orderKey post (nI w) := by
  have h2 := ly_key_l h p (6 - ly_nl w) 0 (by omega)
  rw [Nat.pow_zero, Nat.mul_one] at h2
  exact Exists.intro _ h2
end
section
/-! letter, before -/
theorem ly_s3k : ∀ k, k < 7 → ((((3 : Int32) * nI k) &&& 31).toBitVec.smod 32).toNat = 3 * k := by decide +kernel
theorem ly_shrk {w k : Nat} (h : w < 524288) (hk : k < 7) : nI w >>> (((3 : Int32) * nI k) &&& 31) = nI (w / 8 ^ k) := by
  rw [pk_shrN (n := w) (by omega) _ (3 * k) (ly_s3k k hk), Nat.pow_mul]
def ly_le (n w i : Nat) : Int32 := if i < n then nI (w / 8 ^ (n - 1 - i) % 8) else -1
theorem ly_letter {post : Int32 → Prop} {v : SY} {n w i : Nat} (h : ly_Rw n w) (hi : i < 6) (p : post (ly_le n w i)) : wpY_letter post v (nI w) (nI i) := by
  obtain ⟨c, a, b⟩ := v
  have hn := h.1
  have hl := ly_rw_lt h
  unfold wpY_letter; dsimp only
  refine ly_letters_y h ?_
  by_cases hin : i < n
  · refine br_f (nI_ge hin (by omega)) ?_
    rw [show (1 : Int32) = nI 1 from rfl, pk_sub (by omega), pk_sub (by omega), ly_shrk hl.2 (by omega)]
    have hd : w / 8 ^ (n - 1 - i) ≤ w := Nat.div_le_self _ _
    rw [pk_andN (n := w / 8 ^ (n - 1 - i)) (by omega) (m := 7) 3 (by decide)]
    unfold ly_le at p; rw [if_pos hin] at p; exact p
  · refine br_t (nI_le (by omega) (by omega)) ?_
    unfold ly_le at p; rw [if_neg hin] at p; exact p
theorem ly_let_F {n w i : Nat} (hn : n ≤ 6) (hi : i < n) : w / 8 ^ (n - 1 - i) = w * 8 ^ (6 - n) / 8 ^ (5 - i) := by
  rw [show 5 - i = n - 1 - i + (6 - n) from by omega, Nat.pow_add, Nat.mul_div_mul_right _ _ (Nat.pos_of_ne_zero (by intro z; simp at z))]
theorem ly_F_dv {n w i : Nat} (hi : n ≤ i) : w * 8 ^ (6 - n) = 8 ^ (6 - i) * (w * 8 ^ (6 - n) / 8 ^ (6 - i)) :=
  (Nat.mul_div_cancel' (Nat.dvd_mul_left_of_dvd (Nat.pow_dvd_pow 8 (by omega)) w)).symm
theorem ly_m1lt {k : Nat} (h : k < 8) : ¬ nI k ≤ -1 := by
  rcases (show k = 0 ∨ k = 1 ∨ k = 2 ∨ k = 3 ∨ k = 4 ∨ k = 5 ∨ k = 6 ∨ k = 7 from by omega) with rfl | rfl | rfl | rfl | rfl | rfl | rfl | rfl <;> decide
theorem ly_m1ne {k : Nat} (h : k < 8) : ¬ nI k = -1 := fun e => ly_m1lt h (by rw [e]; exact Int32.le_refl _)
theorem ly_m1le {k : Nat} (h : k < 8) : -1 ≤ nI k := by
  rcases (show k = 0 ∨ k = 1 ∨ k = 2 ∨ k = 3 ∨ k = 4 ∨ k = 5 ∨ k = 6 ∨ k = 7 from by omega) with rfl | rfl | rfl | rfl | rfl | rfl | rfl | rfl <;> decide
theorem ly_lt_div {a b e : Nat} (h : a / e < b / e) : a < b := by
  rcases Nat.lt_or_ge a b with h1 | h1
  · exact h1
  · have := Nat.div_le_div_right (c := e) h1
    omega
theorem ly_before_l {post : Int32 → Prop} {c : Int32} {a b : Nat → Int32} {n m w v F G : Nat} (hw : ly_Rw n w) (hv : ly_Rw m v) (hF : F = w * 8 ^ (6 - n)) (hG : G = v * 8 ^ (6 - m))
    (p1 : 7 * F + n < 7 * G + m → post 1) (p0 : ¬ 7 * F + n < 7 * G + m → post 0) :
    ∀ d i, i + d = 6 → F / 8 ^ (6 - i) = G / 8 ^ (6 - i) → ((n < i ∨ m < i) → n = m) → wY_before_2 post (nI w) (nI v) c a b (d + 1) (nI i) := by
  have hn := hw.1
  have hm := hv.1
  intro d
  induction d with
  | zero =>
    intro i hi e1 e2
    obtain rfl : i = 6 := by omega
    rw [show 6 - 6 = 0 from rfl, Nat.pow_zero, Nat.div_one, Nat.div_one] at e1
    have : n = m := by
      rcases (show n < 6 ∨ m < 6 ∨ n = m from by omega) with z | z | z
      · exact e2 (Or.inl z)
      · exact e2 (Or.inr z)
      · exact z
    exact br_t (nI_le (a := 6) (by omega) (by omega)) (p0 (by omega))
  | succ d ih =>
    intro i hi e1 e2
    refine br_f (nI_ge (b := 6) (by omega) (by omega)) (ly_letter hw (by omega) (ly_letter hv (by omega) ?_))
    have e8 : 8 ^ (6 - i) = 8 ^ (5 - i) * 8 := by rw [show 6 - i = 5 - i + 1 from by omega, Nat.pow_succ]
    have e1' := e1
    rw [e8, ← Nat.div_div_eq_div_mul, ← Nat.div_div_eq_div_mul] at e1'
    by_cases h1 : i < n
    · by_cases h2 : i < m
      · have lw : ly_le n w i = nI (F / 8 ^ (5 - i) % 8) := by unfold ly_le; rw [if_pos h1, ly_let_F hn h1, hF]
        have lv : ly_le m v i = nI (G / 8 ^ (5 - i) % 8) := by unfold ly_le; rw [if_pos h2, ly_let_F hm h2, hG]
        rw [lw, lv]
        have x1 : F / 8 ^ (5 - i) < G / 8 ^ (5 - i) → F < G := ly_lt_div
        have x2 : G / 8 ^ (5 - i) < F / 8 ^ (5 - i) → G < F := ly_lt_div
        refine pk_eq (F / 8 ^ (5 - i) % 8) (G / 8 ^ (5 - i) % 8) (fun e => nm_r (nI_1 i) (ih (i + 1) (by omega) ?_ ?_)) (fun ne => pk_le (G / 8 ^ (5 - i) % 8) (F / 8 ^ (5 - i) % 8) (fun l => p0 ?_) (fun l => p1 ?_))
        · rw [show 6 - (i + 1) = 5 - i from by omega]; omega
        · intro z; omega
        · have := x2 (by omega); omega
        · have := x1 (by omega); omega
      · have lw : ly_le n w i = nI (F / 8 ^ (5 - i) % 8) := by unfold ly_le; rw [if_pos h1, ly_let_F hn h1, hF]
        have lv : ly_le m v i = -1 := by unfold ly_le; rw [if_neg h2]
        rw [lw, lv]
        have k8 : F / 8 ^ (5 - i) % 8 < 8 := Nat.mod_lt _ (by omega)
        refine br_f (ly_m1ne k8) (br_t (ly_m1le k8) (p0 ?_))
        have d := ly_F_dv (w := v) (n := m) (i := i) (by omega)
        rw [← hG, ← e1] at d
        have := Nat.mul_div_le F (8 ^ (6 - i))
        omega
    · have lw : ly_le n w i = -1 := by unfold ly_le; rw [if_neg h1]
      have dF := ly_F_dv (w := w) (n := n) (i := i) (by omega)
      rw [← hF] at dF
      by_cases h2 : i < m
      · have lv : ly_le m v i = nI (G / 8 ^ (5 - i) % 8) := by unfold ly_le; rw [if_pos h2, ly_let_F hm h2, hG]
        rw [lw, lv]
        have k8 : G / 8 ^ (5 - i) % 8 < 8 := Nat.mod_lt _ (by omega)
        refine br_f (fun z => ly_m1ne k8 z.symm) (br_f (ly_m1lt k8) (p1 ?_))
        rw [e1] at dF
        have := Nat.mul_div_le G (8 ^ (6 - i))
        omega
      · have lv : ly_le m v i = -1 := by unfold ly_le; rw [if_neg h2]
        rw [lw, lv]
        have dG := ly_F_dv (w := v) (n := m) (i := i) (by omega)
        rw [← hG, ← e1, ← dF] at dG
        refine br_t rfl (nm_r (nI_1 i) (ih (i + 1) (by omega) (by rw [dG]) ?_))
        intro _
        rcases (show n < i ∨ m < i ∨ n = m from by omega) with z | z | z
        · exact e2 (Or.inl z)
        · exact e2 (Or.inr z)
        · exact z
theorem ly_before {post : Int32 → Prop} {u : SY} {w v : Nat} (hw : ly_Row w) (hv : ly_Row v) (p1 : ly_K w < ly_K v → post 1) (p0 : ¬ ly_K w < ly_K v → post 0) : wpY_before post u (nI w) (nI v) := by
  obtain ⟨c, a, b⟩ := u
  refine Exists.intro 7 (ly_before_l hw hv rfl rfl p1 p0 6 0 rfl ?_ (fun z => by omega))
  have h1 := ly_F_lo hw
  have h2 := ly_F_lo hv
  simp only [Nat.reduceSub, Nat.reducePow]
  omega
/-! isBeginning, begins -/
theorem ly_wll {post : Int32 → Prop} {w : Nat} (h : w < 524288) (p : post (nI (w / 8))) : wpX_withoutLastLetter post (nI w) := by
  unfold wpX_withoutLastLetter
  rw [ly_shr3 h]; exact p
theorem ly_isBeg_l {post : Int32 → Prop} {r w : Nat} (hr : r < 524288) (hw : w < 524288) (p1 : ly_bg r w = true → post 1) (p0 : ¬ ly_bg r w = true → post 0) :
    ∀ d i, i + d = 6 → (∀ k, k < i → w / 8 ^ k ≠ r) → wX_isBeginning_4 post (nI r) (d + 1) (nI (w / 8 ^ i)) (nI i) := by
  have hle : ∀ i, w / 8 ^ i ≤ w := fun i => Nat.div_le_self _ _
  intro d
  induction d with
  | zero =>
    intro i hi hn
    obtain rfl : i = 6 := by omega
    have := hle 6
    refine br_t (nI_le (a := 6) (by omega) (by omega)) (pk_eq (w / 8 ^ 6) r (fun e => p1 (ly_bg_iff.mpr ⟨6, by omega, e⟩)) (fun ne => p0 fun z => ?_) rfl rfl (by omega) (by omega))
    obtain ⟨k, hk, e⟩ := ly_bg_iff.mp z
    rcases Nat.lt_or_ge k 6 with h | h
    · exact hn k h e
    · rw [show k = 6 from by omega] at e; exact ne e
  | succ d ih =>
    intro i hi hn
    have := hle i
    refine br_f (nI_ge (b := 6) (by omega) (by omega)) (pk_le (w / 8 ^ i) r (fun l => ?_) (fun l => ly_wll (by omega) ?_) rfl rfl (by omega) (by omega))
    · refine pk_eq (w / 8 ^ i) r (fun e => p1 (ly_bg_iff.mpr ⟨i, by omega, e⟩)) (fun ne => p0 fun z => ?_) rfl rfl (by omega) (by omega)
      obtain ⟨k, hk, e⟩ := ly_bg_iff.mp z
      rcases Nat.lt_or_ge k i with h | h
      · exact hn k h e
      · have h8 : 8 ^ i ≤ 8 ^ k := Nat.pow_le_pow_right (by omega) h
        have : w / 8 ^ k ≤ w / 8 ^ i := Nat.div_le_div_left h8 (Nat.pos_of_ne_zero (by intro z; simp at z))
        omega
    · refine nm_r (nI_1 i) ?_
      rw [Nat.div_div_eq_div_mul, ← Nat.pow_succ]
      refine ih (i + 1) (by omega) (fun k hk => ?_)
      rcases Nat.lt_or_ge k i with h | h
      · exact hn k h
      · rw [show k = i from by omega]; omega
theorem ly_isBeg {post : Int32 → Prop} {r w : Nat} (hr : ly_Row r) (hw : ly_Row w) (p1 : ly_bg r w = true → post 1) (p0 : ¬ ly_bg r w = true → post 0) : wpX_isBeginning post (nI r) (nI w) := by
  have h := ly_isBeg_l (ly_rw_lt hr).2 (ly_rw_lt hw).2 p1 p0 6 0 rfl (fun k hk => by omega)
  rw [Nat.pow_zero, Nat.div_one] at h
  exact Exists.intro _ h
theorem ly_begins {post : Int32 → Prop} {v : SY} {r w : Nat} (hr : ly_Row r) (hw : ly_Row w) (p1 : ly_bg r w = true → post 1) (p0 : ¬ ly_bg r w = true → post 0) : wpY_begins post v (nI r) (nI w) := by
  obtain ⟨c, a, b⟩ := v
  have hn := hr.1
  have hm := hw.1
  have hl := ly_rw_lt hw
  have hlr := ly_rw_lt hr
  unfold wpY_begins; dsimp only
  refine ly_letters_y hr (ly_letters_y hw ?_)
  refine pk_lt (ly_nl w) (ly_nl r) (fun l => p0 fun z => ?_) (fun l => ?_) rfl rfl (by omega) (by omega)
  · have := ((ly_bg_let hr hw).mp z).1
    omega
  · rw [pk_sub l, ly_shrk hl.2 (by omega)]
    have hd : w / 8 ^ (ly_nl w - ly_nl r) ≤ w := Nat.div_le_self _ _
    exact pk_eq _ _ (fun e => p1 ((ly_bg_let hr hw).mpr ⟨l, e⟩)) (fun ne => p0 fun z => ne ((ly_bg_let hr hw).mp z).2) rfl rfl (by omega) (by omega)
/-! sharedBeginning -/
def ly_Meet (l r Q : Nat) : Prop := ly_Row Q ∧ ∀ q, ly_Row q → (ly_bg q Q = true ↔ ly_bg q l = true ∧ ly_bg q r = true)
theorem ly_shared_l {post : Int32 → Prop} : ∀ d i n m l r, i + d = 12 → ly_Rw n l → ly_Rw m r → n + m ≤ d → (∀ Q, ly_Meet l r Q → post (nI Q)) → wX_sharedBeginning_7 post (d + 1) (nI l) (nI r) (nI i) := by
  intro d
  induction d with
  | zero =>
    intro i n m l r hi hl hr hd p
    obtain rfl : n = 0 := by omega
    obtain rfl : m = 0 := by omega
    refine br_t (nI_le (a := 12) (by omega) (by omega)) (p l ⟨ly_row_of hl, fun q _ => ?_⟩)
    rw [ly_rw0 hl, ly_rw0 hr]
    exact (and_self_iff).symm
  | succ d ih =>
    intro i n m l r hi hl hr hd p
    have hl' := ly_rw_lt hl
    have hr' := ly_rw_lt hr
    refine br_f (nI_ge (b := 12) (by omega) (by omega)) (pk_eq l r (fun e => p l ⟨ly_row_of hl, fun q _ => ?_⟩) (fun ne => pk_le l r (fun le => ly_wll hr'.2 (nm_r (nI_1 i) ?_)) (fun lt => ly_wll hl'.2 (nm_r (nI_1 i) ?_)) rfl rfl (by omega) (by omega)) rfl rfl (by omega) (by omega))
    · rw [e]; exact (and_self_iff).symm
    · cases m with
      | zero => have := ly_rw0 hr; omega
      | succ m =>
        refine ih (i + 1) n m l (r / 8) (by omega) hl (ly_rw_div hr) (by omega) (fun Q hQ => p Q ⟨hQ.1, fun q hq => (hQ.2 q hq).trans ⟨fun z => ⟨z.1, ly_bg_up (ly_rw_lt hq).1 hr'.2 z.2⟩, fun z => ⟨z.1, ly_bg_down z.2 ?_⟩⟩⟩)
        have := ly_bg_le z.1
        omega
    · cases n with
      | zero => have := ly_rw0 hl; omega
      | succ n =>
        refine ih (i + 1) n m (l / 8) r (by omega) (ly_rw_div hl) hr (by omega) (fun Q hQ => p Q ⟨hQ.1, fun q hq => (hQ.2 q hq).trans ⟨fun z => ⟨ly_bg_up (ly_rw_lt hq).1 hl'.2 z.1, z.2⟩, fun z => ⟨ly_bg_down z.1 ?_, z.2⟩⟩⟩)
        have := ly_bg_le z.2
        omega
theorem ly_shared {post : Int32 → Prop} {l r : Nat} (hl : ly_Row l) (hr : ly_Row r) (p : ∀ Q, ly_Meet l r Q → post (nI Q)) : wpX_sharedBeginning post (nI l) (nI r) := by
  have h1 := hl.1
  have h2 := hr.1
  exact Exists.intro 13 (ly_shared_l 12 0 _ _ l r rfl hl hr (by omega) p)
end
section
/-- the arrays hold the list from place i on -/
def ly_At (a b : Nat → Int32) : Nat → List (Nat × Int32) → Prop
  | _, [] => True
  | i, p :: S => (a i = nI p.1 ∧ b i = p.2) ∧ ly_At a b (i + 1) S
def ly_Gd (S : List (Nat × Int32)) : Prop := ∀ p, p ∈ S → ly_Word p.1
def ly_Srt (S : List (Nat × Int32)) : Prop := S.Pairwise (fun p q => ly_K p.1 < ly_K q.1)
def ly_ct (key : Nat) (S : List (Nat × Int32)) : Nat := S.countP (fun p => decide (ly_K p.1 < key))
def ly_Rep (S : List (Nat × Int32)) (u : SX) : Prop := ∃ a b, u = (nI S.length, a, b) ∧ ly_At a b 0 S ∧ ly_Gd S ∧ S.length ≤ 40
theorem ly_At_app {a b : Nat → Int32} : ∀ {S T : List (Nat × Int32)} {i : Nat}, ly_At a b i (S ++ T) ↔ ly_At a b i S ∧ ly_At a b (i + S.length) T := by
  intro S
  induction S with
  | nil => intro T i; exact ⟨fun h => ⟨trivial, h⟩, fun h => h.2⟩
  | cons p S ih =>
    intro T i
    show (_ ∧ ly_At a b (i + 1) (S ++ T)) ↔ (_ ∧ ly_At a b (i + 1) S) ∧ _
    rw [ih, List.length_cons, show i + 1 + S.length = i + (S.length + 1) from by omega]
    exact and_assoc.symm
theorem ly_At_mv {a b a' b' : Nat → Int32} : ∀ {S : List (Nat × Int32)} {i i' : Nat}, (∀ j, j < S.length → a' (i' + j) = a (i + j) ∧ b' (i' + j) = b (i + j)) → ly_At a b i S → ly_At a' b' i' S := by
  intro S
  induction S with
  | nil => intro i i' _ _; trivial
  | cons p S ih =>
    intro i i' h hA
    have h0 := h 0 (by rw [List.length_cons]; omega)
    rw [Nat.add_zero, Nat.add_zero] at h0
    refine ⟨⟨h0.1.trans hA.1.1, h0.2.trans hA.1.2⟩, ih (i := i + 1) (fun j hj => ?_) hA.2⟩
    have h1 := h (j + 1) (by rw [List.length_cons]; omega)
    rw [show i' + (j + 1) = i' + 1 + j from by omega, show i + (j + 1) = i + 1 + j from by omega] at h1
    exact h1
theorem ly_At_mid {a b : Nat → Int32} {A B : List (Nat × Int32)} {q : Nat × Int32} (h : ly_At a b 0 (A ++ q :: B)) : a A.length = nI q.1 ∧ b A.length = q.2 := by
  have h2 := (ly_At_app.mp h).2.1
  rw [Nat.zero_add] at h2; exact h2
theorem ly_Gd_c {p : Nat × Int32} {S : List (Nat × Int32)} (h : ly_Gd (p :: S)) : ly_Word p.1 ∧ ly_Gd S := ⟨h p (List.mem_cons_self ..), fun q hq => h q (List.mem_cons_of_mem _ hq)⟩
theorem ly_ct_cons {key : Nat} {p : Nat × Int32} {S : List (Nat × Int32)} : ly_ct key (p :: S) = ly_ct key S + if ly_K p.1 < key then 1 else 0 := by
  unfold ly_ct; rw [List.countP_cons]; simp only [decide_eq_true_eq]
theorem ly_ct_app {key : Nat} {A B : List (Nat × Int32)} : ly_ct key (A ++ B) = ly_ct key A + ly_ct key B := List.countP_append ..
theorem ly_ct_perm {key : Nat} {A B : List (Nat × Int32)} (h : A.Perm B) : ly_ct key A = ly_ct key B := h.countP_eq _
theorem ly_ct_all {key : Nat} : ∀ {A : List (Nat × Int32)}, (∀ p, p ∈ A → ly_K p.1 < key) → ly_ct key A = A.length := by
  intro A
  induction A with
  | nil => intro _; rfl
  | cons p A ih =>
    intro h
    rw [ly_ct_cons, if_pos (h p (List.mem_cons_self ..)), ih (fun q hq => h q (List.mem_cons_of_mem _ hq)), List.length_cons]
theorem ly_ct_none {key : Nat} : ∀ {A : List (Nat × Int32)}, (∀ p, p ∈ A → key ≤ ly_K p.1) → ly_ct key A = 0 := by
  intro A
  induction A with
  | nil => intro _; rfl
  | cons p A ih =>
    intro h
    rw [ly_ct_cons, if_neg (Nat.not_lt.mpr (h p (List.mem_cons_self ..))), ih (fun q hq => h q (List.mem_cons_of_mem _ hq))]
/-! scans -/
theorem ly_place_l {post : Int32 → Prop} {key N : Nat} {a b : Nat → Int32} (hk : key < 4000000) (hN : N ≤ 40) : ∀ (S : List (Nat × Int32)) (i c : Nat), ly_Gd S → ly_At a b i S → i + S.length = N → post (nI (c + ly_ct key S)) → wX_placeOf_10 post (nI key) (nI N) a b (S.length + 1) (nI c) (nI i) := by
  intro S
  induction S with
  | nil =>
    intro i c _ _ hi p
    have hi : i + 0 = N := hi
    exact br_t (nI_le (by omega) (by omega)) p
  | cons q S ih =>
    intro i c hG hA hi p
    rw [List.length_cons] at hi
    have hq := (ly_Gd_c hG).1.1
    have hK := ly_K_lt hq
    refine br_f (nI_ge (by omega) (by omega)) ⟨vp_in_nI (by omega) (by omega), ?_⟩
    rw [nI_clamp (by omega), hA.1.1]
    refine ly_key hq (pk_le key (ly_K q.1) (fun l => nm_r (nI_1 i) (ih (i + 1) c (ly_Gd_c hG).2 hA.2 (by omega) ?_)) (fun l => nm_r (nI_1 c) (nm_r (nI_1 i) (ih (i + 1) (c + 1) (ly_Gd_c hG).2 hA.2 (by omega) ?_))) rfl rfl (by omega) (by omega))
    · rw [ly_ct_cons, if_neg (by omega)] at p; exact p
    · rw [ly_ct_cons, if_pos l] at p
      rw [show c + 1 + ly_ct key S = c + (ly_ct key S + 1) from by omega]; exact p
theorem ly_place {post : Int32 → Prop} {u : SX} {S : List (Nat × Int32)} {w : Nat} (hR : ly_Rep S u) (hw : ly_Row w) (p : post (nI (ly_ct (ly_K w) S))) : wpX_placeOf post u (nI w) := by
  obtain ⟨a, b, rfl, hA, hG, hl⟩ := hR
  unfold wpX_placeOf; dsimp only
  refine ly_key hw (Exists.intro _ (ly_place_l (ly_K_lt hw) hl S 0 0 hG hA (by omega) ?_))
  rw [Nat.zero_add]; exact p
theorem ly_ahead_l {post : Int32 → Prop} {w N : Nat} {a b : Nat → Int32} (hw : ly_Row w) (hN : N ≤ 40) : ∀ (S : List (Nat × Int32)) (i c : Nat), ly_Gd S → ly_At a b i S → i + S.length = N → post (nI (c + ly_ct (ly_K w) S)) → wY_ahead_4 post (nI w) (nI N) a b (S.length + 1) (nI c) (nI i) := by
  intro S
  induction S with
  | nil =>
    intro i c _ _ hi p
    have hi : i + 0 = N := hi
    exact br_t (nI_le (by omega) (by omega)) p
  | cons q S ih =>
    intro i c hG hA hi p
    rw [List.length_cons] at hi
    have hq := (ly_Gd_c hG).1.1
    refine br_f (nI_ge (by omega) (by omega)) (br_f (nI_ge (b := 40) (by omega) (by omega)) ⟨vp_in_nI (by omega) (by omega), ?_⟩)
    rw [nI_clamp (by omega), hA.1.1]
    refine ly_before hq hw (fun l => br_f (by decide) (nm_r (nI_1 c) (nm_r (nI_1 i) (ih (i + 1) (c + 1) (ly_Gd_c hG).2 hA.2 (by omega) ?_)))) (fun l => br_t rfl (nm_r (nI_1 i) (ih (i + 1) c (ly_Gd_c hG).2 hA.2 (by omega) ?_)))
    · rw [ly_ct_cons, if_pos l] at p
      rw [show c + 1 + ly_ct (ly_K w) S = c + (ly_ct (ly_K w) S + 1) from by omega]; exact p
    · rw [ly_ct_cons, if_neg l] at p; exact p
theorem ly_ahead {post : Int32 → Prop} {v : SY} {S : List (Nat × Int32)} {w : Nat} (hR : ly_Rep S v) (hw : ly_Row w) (p : post (nI (ly_ct (ly_K w) S))) : wpY_ahead post v (nI w) := by
  obtain ⟨a, b, rfl, hA, hG, hl⟩ := hR
  refine Exists.intro _ (ly_ahead_l hw hl S 0 0 hG hA (by omega) ?_)
  rw [Nat.zero_add]; exact p
theorem ly_find_l {x : Int32} {N : Nat} {a b : Nat → Int32} (hN : N ≤ 40) : ∀ (S : List (Nat × Int32)) (i : Nat), ly_At a b i S → i + S.length = N → (∃ C q D, S = C ++ q :: D ∧ nI q.1 = x ∧ ∀ post : Int32 → Prop, post (nI (i + C.length)) → wY_find_2 post x (nI N) a b (S.length + 1) (nI i)) ∨ ((∀ q, q ∈ S → nI q.1 ≠ x) ∧ ∀ post : Int32 → Prop, post (-1) → wY_find_2 post x (nI N) a b (S.length + 1) (nI i)) := by
  intro S
  induction S with
  | nil =>
    intro i _ hi
    have hi : i + 0 = N := hi
    exact Or.inr ⟨fun q hq => (nomatch hq), fun post p => br_t (nI_le (by omega) (by omega)) p⟩
  | cons q S ih =>
    intro i hA hi
    rw [List.length_cons] at hi
    have hst : ∀ post : Int32 → Prop, (nI q.1 = x → post (nI i)) → (¬ nI q.1 = x → wY_find_2 post x (nI N) a b (S.length + 1) (nI (i + 1))) → wY_find_2 post x (nI N) a b ((q :: S).length + 1) (nI i) := by
      intro post p1 p2
      refine br_f (nI_ge (by omega) (by omega)) (br_f (nI_ge (b := 40) (by omega) (by omega)) ⟨vp_in_nI (by omega) (by omega), ?_⟩)
      rw [nI_clamp (by omega), hA.1.1]
      exact br_c p1 (fun e => nm_r (nI_1 i) (p2 e))
    by_cases e : nI q.1 = x
    · exact Or.inl ⟨[], q, S, rfl, e, fun post p => hst post (fun _ => p) (fun z => absurd e z)⟩
    · rcases ih (i + 1) hA.2 (by omega) with ⟨C, r, D, eS, er, h⟩ | ⟨hn, h⟩
      · refine Or.inl ⟨q :: C, r, D, by rw [eS]; rfl, er, fun post p => hst post (fun z => absurd z e) (fun _ => h post ?_)⟩
        rw [List.length_cons] at p
        rw [show i + 1 + C.length = i + (C.length + 1) from by omega]; exact p
      · refine Or.inr ⟨fun r hr => ?_, fun post p => hst post (fun z => absurd z e) (fun _ => h post p)⟩
        rcases List.mem_cons.mp hr with rfl | hr
        · exact e
        · exact hn r hr
theorem ly_find {v : SY} {S : List (Nat × Int32)} (x : Int32) (hR : ly_Rep S v) : (∃ C q D, S = C ++ q :: D ∧ nI q.1 = x ∧ ∀ post : Int32 → Prop, post (nI C.length) → wpY_find post v x) ∨ ((∀ q, q ∈ S → nI q.1 ≠ x) ∧ ∀ post : Int32 → Prop, post (-1) → wpY_find post v x) := by
  obtain ⟨a, b, rfl, hA, hG, hl⟩ := hR
  rcases ly_find_l (x := x) hl S 0 hA (by omega) with ⟨C, q, D, e1, e2, h⟩ | ⟨hn, h⟩
  · refine Or.inl ⟨C, q, D, e1, e2, fun post p => Exists.intro _ (h post ?_)⟩
    rw [Nat.zero_add]; exact p
  · exact Or.inr ⟨hn, fun post p => Exists.intro _ (h post p)⟩
/-! the sorted side -/
theorem ly_split {key : Nat} : ∀ {S : List (Nat × Int32)}, ly_Srt S → ∃ A B, S = A ++ B ∧ A.length = ly_ct key S ∧ (∀ p, p ∈ A → ly_K p.1 < key) ∧ (∀ p, p ∈ B → key ≤ ly_K p.1) := by
  intro S
  induction S with
  | nil => intro _; exact ⟨[], [], rfl, rfl, fun p hp => (nomatch hp), fun p hp => (nomatch hp)⟩
  | cons p S ih =>
    intro h
    have h := List.pairwise_cons.mp h
    by_cases hp : ly_K p.1 < key
    · obtain ⟨A, B, e, hl, hA, hB⟩ := ih h.2
      refine ⟨p :: A, B, by rw [e]; rfl, by rw [ly_ct_cons, if_pos hp, List.length_cons, hl], fun q hq => ?_, hB⟩
      rcases List.mem_cons.mp hq with rfl | hq
      · exact hp
      · exact hA q hq
    · have hall : ∀ q, q ∈ p :: S → key ≤ ly_K q.1 := by
        intro q hq
        rcases List.mem_cons.mp hq with rfl | hq
        · omega
        · have := h.1 q hq; omega
      exact ⟨[], p :: S, rfl, (ly_ct_none hall).symm, fun q hq => (nomatch hq), hall⟩
theorem ly_Srt_mid {A B : List (Nat × Int32)} {q : Nat × Int32} (h : ly_Srt (A ++ q :: B)) : (∀ p, p ∈ A → ly_K p.1 < ly_K q.1) ∧ (∀ p, p ∈ B → ly_K q.1 < ly_K p.1) ∧ ly_Srt (A ++ B) := by
  have h' := List.pairwise_append.mp h
  have h2 := List.pairwise_cons.mp h'.2.1
  exact ⟨fun p hp => h'.2.2 p hp q (List.mem_cons_self ..), h2.1, List.pairwise_append.mpr ⟨h'.1, h2.2, fun x hx y hy => h'.2.2 x hx y (List.mem_cons_of_mem _ hy)⟩⟩
theorem ly_ct_mid {A B : List (Nat × Int32)} {q : Nat × Int32} (h : ly_Srt (A ++ q :: B)) : ly_ct (ly_K q.1) (A ++ q :: B) = A.length := by
  have h2 := ly_Srt_mid h
  rw [ly_ct_app, ly_ct_cons, if_neg (by omega), ly_ct_all h2.1, ly_ct_none (fun p hp => Nat.le_of_lt (h2.2.1 p hp))]
  rfl
theorem ly_hold {w : Nat} {S : List (Nat × Int32)} (hw : ly_Row w) (hG : ly_Gd S) (hS : ly_Srt S) : (∃ A x B, S = A ++ (w, x) :: B ∧ A.length = ly_ct (ly_K w) S) ∨ (∃ A B, S = A ++ B ∧ A.length = ly_ct (ly_K w) S ∧ (∀ p, p ∈ A → ly_K p.1 < ly_K w) ∧ (∀ p, p ∈ B → ly_K w < ly_K p.1)) := by
  obtain ⟨A, B, e, hl, hA, hB⟩ := ly_split (key := ly_K w) hS
  cases B with
  | nil => exact Or.inr ⟨A, [], e, hl, hA, fun p hp => (nomatch hp)⟩
  | cons q B =>
    by_cases hq : q.1 = w
    · exact Or.inl ⟨A, q.2, B, by rw [e, ← hq], hl⟩
    · refine Or.inr ⟨A, q :: B, e, hl, hA, fun p hp => ?_⟩
      have hqr : ly_Row q.1 := (hG q (by rw [e]; exact List.mem_append_right _ (List.mem_cons_self ..))).1
      have h1 := hB q (List.mem_cons_self ..)
      have h2 : ly_K w ≠ ly_K q.1 := fun z => hq (ly_K_inj hw hqr z).symm
      rcases List.mem_cons.mp hp with rfl | hp
      · omega
      · rw [e] at hS
        have := (ly_Srt_mid hS).2.1 p hp
        omega
theorem ly_held_y {post : Int32 → Prop} {u : SX} {A B : List (Nat × Int32)} {w : Nat} {x : Int32} (hR : ly_Rep (A ++ (w, x) :: B) u) (p : post 1) : wpX_isHeldAt post u (nI A.length) (nI w) := by
  obtain ⟨a, b, rfl, hA, hG, hl⟩ := hR
  have hm := ly_At_mid hA
  rw [List.length_append, List.length_cons] at hl
  unfold wpX_isHeldAt; dsimp only
  refine br_f (nI_ge (by rw [List.length_append, List.length_cons]; omega) (by rw [List.length_append, List.length_cons]; omega)) ⟨vp_in_nI (by omega) (by omega), ?_⟩
  rw [nI_clamp (by omega), hm.1]
  exact br_t rfl p
theorem ly_held_n {post : Int32 → Prop} {u : SX} {A B : List (Nat × Int32)} {w : Nat} (hR : ly_Rep (A ++ B) u) (hB : ∀ p, p ∈ B → p.1 ≠ w) (hw : w < 524288) (p : post 0) : wpX_isHeldAt post u (nI A.length) (nI w) := by
  obtain ⟨a, b, rfl, hA, hG, hl⟩ := hR
  unfold wpX_isHeldAt; dsimp only
  cases B with
  | nil =>
    rw [List.append_nil] at hl ⊢
    exact br_t (nI_le (by omega) (by omega)) p
  | cons q B =>
    have hm := ly_At_mid hA
    rw [List.length_append, List.length_cons] at hl
    have hq := ly_word_ge (hG q (List.mem_append_right _ (List.mem_cons_self ..)))
    refine br_f (nI_ge (by rw [List.length_append, List.length_cons]; omega) (by rw [List.length_append, List.length_cons]; omega)) ⟨vp_in_nI (by omega) (by omega), ?_⟩
    rw [nI_clamp (by omega), hm.1]
    exact br_f (fun z => hB q (List.mem_cons_self ..) ((nI_eq (by omega) (by omega)).mp z)) p
end
section
/-- the one table sorted, the other in the order of the puts: the same pairs -/
def ly_R (u : SX) (v : SY) : Prop := ∃ L M, ly_Rep L u ∧ ly_Rep M v ∧ L.Perm M ∧ ly_Srt L
def i_Rel (_ : Nat) (u : SX) (v : SY) : Prop := ly_R u v
theorem i_up {k : Nat} {u : SX} {v : SY} (h : i_Rel k u v) : i_Rel (k + 4) u v := h
theorem i_vc0 : wpX_init (fun u => wpY_init (fun v => i_Rel 0 u v)) :=
  ⟨[], [], ⟨fun _ => 0, fun _ => 0, rfl, trivial, fun _ h => (nomatch h), by decide⟩, ⟨fun _ => 0, fun _ => 0, rfl, trivial, fun _ h => (nomatch h), by decide⟩, List.Perm.nil, List.Pairwise.nil⟩
theorem ly_len {L : List (Nat × Int32)} {u : SX} (h : ly_Rep L u) : u.1 = nI L.length ∧ L.length ≤ 40 := by
  obtain ⟨a, b, rfl, _, _, hl⟩ := h
  exact ⟨rfl, hl⟩
theorem ly_gd {L : List (Nat × Int32)} {u : SX} (h : ly_Rep L u) : ly_Gd L := by
  obtain ⟨a, b, rfl, _, hG, hl⟩ := h
  exact hG
theorem ly_look {u : SX} {v : SY} {L M : List (Nat × Int32)} {w : Nat} (hL : ly_Rep L u) (hM : ly_Rep M v) (hP : L.Perm M) (hS : ly_Srt L) (hw : ly_Word w) :
    (∃ A x B C D, L = A ++ (w, x) :: B ∧ M = C ++ (w, x) :: D ∧ A.length = ly_ct (ly_K w) L ∧ (∀ post : Int32 → Prop, post 1 → wpX_isHeldAt post u (nI A.length) (nI w)) ∧ (∀ post : Int32 → Prop, post (nI C.length) → wpY_find post v (nI w)))
    ∨ (∃ A B, L = A ++ B ∧ A.length = ly_ct (ly_K w) L ∧ (∀ p, p ∈ A → ly_K p.1 < ly_K w) ∧ (∀ p, p ∈ B → ly_K w < ly_K p.1) ∧ (∀ post : Int32 → Prop, post 0 → wpX_isHeldAt post u (nI A.length) (nI w)) ∧ (∀ post : Int32 → Prop, post (-1) → wpY_find post v (nI w))) := by
  have hwl := ly_word_ge hw
  have hG := ly_gd hM
  rcases ly_hold hw.1 (ly_gd hL) hS with ⟨A, x, B, e, hl⟩ | ⟨A, B, e, hl, hA, hB⟩
  · left
    have hin : (w, x) ∈ M := hP.mem_iff.mp (by rw [e]; exact List.mem_append_right _ (List.mem_cons_self ..))
    rcases ly_find (nI w) hM with ⟨C, q, D, e1, e2, h⟩ | ⟨hn, h⟩
    · have hqM : q ∈ M := by rw [e1]; exact List.mem_append_right _ (List.mem_cons_self ..)
      have hq := ly_word_ge (hG q hqM)
      rw [nI_eq (by omega) (by omega)] at e2
      have hqL : q ∈ L := hP.mem_iff.mpr hqM
      have hS' := hS
      rw [e] at hS'
      have hm := ly_Srt_mid hS'
      have eq : q = (w, x) := by
        rw [e] at hqL
        rcases List.mem_append.mp hqL with z | z
        · have := hm.1 q z; rw [e2] at this; exact absurd this (Nat.lt_irrefl _)
        · rcases List.mem_cons.mp z with z | z
          · exact z
          · have := hm.2.1 q z; rw [e2] at this; exact absurd this (Nat.lt_irrefl _)
      refine ⟨A, x, B, C, D, e, by rw [e1, eq], hl, fun post p => ?_, h⟩
      rw [e] at hL
      exact ly_held_y hL p
    · exact absurd rfl (hn _ hin)
  · right
    refine ⟨A, B, e, hl, hA, hB, fun post p => ?_, ?_⟩
    · rw [e] at hL
      refine ly_held_n hL (fun q hq z => ?_) hwl.2 p
      have := hB q hq
      rw [z] at this; exact Nat.lt_irrefl _ this
    · rcases ly_find (nI w) hM with ⟨C, q, D, e1, e2, h⟩ | ⟨hn, h⟩
      · exfalso
        have hqM : q ∈ M := by rw [e1]; exact List.mem_append_right _ (List.mem_cons_self ..)
        have hq := ly_word_ge (hG q hqM)
        rw [nI_eq (by omega) (by omega)] at e2
        have hqL : q ∈ L := hP.mem_iff.mpr hqM
        rw [e] at hqL
        rcases List.mem_append.mp hqL with z | z
        · have := hA q z; rw [e2] at this; exact Nat.lt_irrefl _ this
        · have := hB q z; rw [e2] at this; exact Nat.lt_irrefl _ this
      · exact h
theorem ly_fnone {v : SY} {M : List (Nat × Int32)} {x : Int32} (hM : ly_Rep M v) (hx : ly_NW x) (post : Int32 → Prop) (p : post (-1)) : wpY_find post v x := by
  rcases ly_find x hM with ⟨C, q, D, e1, e2, h⟩ | ⟨hn, h⟩
  · exact absurd e2 (ly_NW_ne hx (ly_gd hM q (by rw [e1]; exact List.mem_append_right _ (List.mem_cons_self ..))))
  · exact h post p
theorem i_vc_size {k : Nat} {u : SX} {v : SY} (I : i_Rel k u v) (hk : k + 4 ≤ 2048) : wpX_size (fun r => wpY_size (fun r' => r' = r ∧ i_Rel (k + 4) u v) v) u := by
  obtain ⟨L, M, hL, hM, hP, hS⟩ := id I
  obtain ⟨h, a, b⟩ := u
  obtain ⟨c, a', b'⟩ := v
  exact ⟨(ly_len hM).1.trans ((congrArg nI hP.length_eq.symm).trans (ly_len hL).1.symm), I⟩
theorem i_vc_rank {k : Nat} {u : SX} {v : SY} (I : i_Rel k u v) (hk : k + 4 ≤ 2048) (v1 : Int32) : wpX_rank (fun r => wpY_rank (fun r' => r' = r ∧ i_Rel (k + 4) u v) v v1) u v1 := by
  obtain ⟨L, M, hL, hM, hP, hS⟩ := id I
  obtain ⟨h, a, b⟩ := u
  obtain ⟨c, a', b'⟩ := v
  unfold wpX_rank wpY_rank; dsimp only
  rcases ly_csW v1 with ⟨w, hw, rfl⟩ | hn
  · refine ly_isWord_y hw (br_f (by decide) (ly_place hL hw.1 (ly_badWord_y hw (br_t rfl (ly_ahead hM hw.1 ⟨?_, I⟩)))))
    rw [ly_ct_perm hP]
  · exact ly_isWord_n hn (br_t rfl (ly_badWord_n hn (br_f (by decide) ⟨rfl, I⟩)))
theorem i_vc_has {k : Nat} {u : SX} {v : SY} (I : i_Rel k u v) (hk : k + 4 ≤ 2048) (v1 : Int32) : wpX_has (fun r => wpY_has (fun r' => r' = r ∧ i_Rel (k + 4) u v) v v1) u v1 := by
  obtain ⟨L, M, hL, hM, hP, hS⟩ := id I
  obtain ⟨h, a, b⟩ := u
  obtain ⟨c, a', b'⟩ := v
  unfold wpX_has wpY_has; dsimp only
  rcases ly_csW v1 with ⟨w, hw, rfl⟩ | hn
  · refine ly_isWord_y hw (br_f (by decide) (ly_place hL hw.1 ?_))
    rcases ly_look hL hM hP hS hw with ⟨A, x, B, C, D, eL, eM, hl, hX, hY⟩ | ⟨A, B, eL, hl, hA, hB, hX, hY⟩
    · rw [← hl]
      have h2 := (ly_len hM).2
      rw [eM, List.length_append] at h2
      exact hX _ (br_f (by decide) (ly_badWord_y hw (br_t rfl (hY _ (br_f (nI_pos (by omega)) ⟨rfl, I⟩)))))
    · rw [← hl]
      exact hX _ (br_t rfl (ly_badWord_y hw (br_t rfl (hY _ (br_t (by decide) ⟨rfl, I⟩)))))
  · exact ly_isWord_n hn (br_t rfl (ly_badWord_n hn (br_f (by decide) ⟨rfl, I⟩)))
theorem i_vc_get {k : Nat} {u : SX} {v : SY} (I : i_Rel k u v) (hk : k + 4 ≤ 2048) (v1 : Int32) : wpX_get (fun r => wpY_get (fun r' => r' = r ∧ i_Rel (k + 4) u v) v v1) u v1 := by
  obtain ⟨L, M, hL, hM, hP, hS⟩ := id I
  obtain ⟨h, a, b⟩ := u
  obtain ⟨c, a', b'⟩ := v
  unfold wpX_get wpY_get; dsimp only
  rcases ly_csW v1 with ⟨w, hw, rfl⟩ | hn
  · refine ly_isWord_y hw (br_f (by decide) (ly_place hL hw.1 ?_))
    rcases ly_look hL hM hP hS hw with ⟨A, x, B, C, D, eL, eM, hl, hX, hY⟩ | ⟨A, B, eL, hl, hA, hB, hX, hY⟩
    · rw [← hl]
      have h1 := (ly_len hL).2
      have h2 := (ly_len hM).2
      obtain ⟨a1, b1, e1, hA1, _, _⟩ := id hL
      obtain ⟨a2, b2, e2, hA2, _, _⟩ := id hM
      cases e1; cases e2
      rw [eL] at hA1 h1
      rw [eM] at hA2 h2
      rw [List.length_append, List.length_cons] at h1 h2
      refine hX _ (br_f (by decide) ⟨vp_in_nI (by omega) (by omega), hY _ (br_t (nI_pos' (by omega)) ⟨vp_in_nI (by omega) (by omega), ?_, I⟩)⟩)
      rw [nI_clamp (by omega), nI_clamp (by omega), (ly_At_mid hA1).2, (ly_At_mid hA2).2]
    · rw [← hl]
      exact hX _ (br_t rfl (hY _ (br_f (by decide) ⟨rfl, I⟩)))
  · exact ly_isWord_n hn (br_t rfl (ly_fnone hM hn _ (br_f (by decide) ⟨rfl, I⟩)))
/-! places: wordAt and at -/
theorem ly_at_l {x : Int32} {N : Nat} {a b : Nat → Int32} {M : List (Nat × Int32)} (hM : ly_Rep M (nI N, a, b)) (hN : N ≤ 40) : ∀ (S : List (Nat × Int32)) (i : Nat), ly_Gd S → ly_At a b i S → i + S.length = N → (∃ q, q ∈ S ∧ nI (ly_ct (ly_K q.1) M) = x ∧ ∀ post : Int32 → Prop, post (nI q.1) → wY_at_2 post x (nI N) a b (S.length + 1) (nI i)) ∨ ((∀ q, q ∈ S → nI (ly_ct (ly_K q.1) M) ≠ x) ∧ ∀ post : Int32 → Prop, post (-1) → wY_at_2 post x (nI N) a b (S.length + 1) (nI i)) := by
  intro S
  induction S with
  | nil =>
    intro i _ _ hi
    have hi : i + 0 = N := hi
    exact Or.inr ⟨fun q hq => (nomatch hq), fun post p => br_t (nI_le (by omega) (by omega)) p⟩
  | cons q S ih =>
    intro i hG hA hi
    rw [List.length_cons] at hi
    have hst : ∀ post : Int32 → Prop, (nI (ly_ct (ly_K q.1) M) = x → post (nI q.1)) → (¬ nI (ly_ct (ly_K q.1) M) = x → wY_at_2 post x (nI N) a b (S.length + 1) (nI (i + 1))) → wY_at_2 post x (nI N) a b ((q :: S).length + 1) (nI i) := by
      intro post p1 p2
      refine br_f (nI_ge (by omega) (by omega)) (br_f (nI_ge (b := 40) (by omega) (by omega)) ⟨vp_in_nI (by omega) (by omega), ?_⟩)
      rw [nI_clamp (by omega), hA.1.1]
      exact ly_ahead hM (ly_Gd_c hG).1.1 (br_c (fun e => ⟨vp_in_nI (by omega) (by omega), p1 e⟩) (fun e => nm_r (nI_1 i) (p2 e)))
    by_cases e : nI (ly_ct (ly_K q.1) M) = x
    · exact Or.inl ⟨q, List.mem_cons_self .., e, fun post p => hst post (fun _ => p) (fun z => absurd e z)⟩
    · rcases ih (i + 1) (ly_Gd_c hG).2 hA.2 (by omega) with ⟨r, hr, er, h⟩ | ⟨hn, h⟩
      · exact Or.inl ⟨r, List.mem_cons_of_mem _ hr, er, fun post p => hst post (fun z => absurd z e) (fun _ => h post p)⟩
      · refine Or.inr ⟨fun r hr => ?_, fun post p => hst post (fun z => absurd z e) (fun _ => h post p)⟩
        rcases List.mem_cons.mp hr with rfl | hr
        · exact e
        · exact hn r hr
theorem ly_at {v : SY} {M : List (Nat × Int32)} (x : Int32) (hM : ly_Rep M v) : (∃ q, q ∈ M ∧ nI (ly_ct (ly_K q.1) M) = x ∧ ∀ post : Int32 → Prop, post (nI q.1) → wpY_at post v x) ∨ ((∀ q, q ∈ M → nI (ly_ct (ly_K q.1) M) ≠ x) ∧ ∀ post : Int32 → Prop, post (-1) → wpY_at post v x) := by
  obtain ⟨a, b, rfl, hA, hG, hl⟩ := id hM
  rcases ly_at_l (x := x) hM hl M 0 hG hA (by omega) with ⟨q, hq, e, h⟩ | ⟨hn, h⟩
  · exact Or.inl ⟨q, hq, e, fun post p => Exists.intro _ (h post p)⟩
  · exact Or.inr ⟨hn, fun post p => Exists.intro _ (h post p)⟩
theorem ly_nth : ∀ {L : List (Nat × Int32)} {j : Nat}, j < L.length → ∃ A q B, L = A ++ q :: B ∧ A.length = j := by
  intro L
  induction L with
  | nil => intro j h; exact absurd h (Nat.not_lt_zero _)
  | cons p L ih =>
    intro j h
    cases j with
    | zero => exact ⟨[], p, L, rfl, rfl⟩
    | succ j =>
      obtain ⟨A, q, B, e, hl⟩ := ih (j := j) (by rw [List.length_cons] at h; omega)
      exact ⟨p :: A, q, B, by rw [e]; rfl, by rw [List.length_cons, hl]⟩
theorem ly_atw {u : SX} {v : SY} {L M : List (Nat × Int32)} (x : Int32) (hL : ly_Rep L u) (hM : ly_Rep M v) (hP : L.Perm M) (hS : ly_Srt L) :
    (∃ w, ly_Word w ∧ (∀ (post : Int32 → Prop) (d : Int32), post (nI w) → wpX_wordAt post u x d) ∧ (∀ post : Int32 → Prop, post (nI w) → wpY_at post v x))
    ∨ ((∀ (post : Int32 → Prop) (d : Int32), post d → wpX_wordAt post u x d) ∧ (∀ post : Int32 → Prop, post (-1) → wpY_at post v x)) := by
  have hlen := (ly_len hL).2
  have hct : ∀ q, q ∈ M → ∃ A B, L = A ++ q :: B ∧ ly_ct (ly_K q.1) M = A.length := by
    intro q hq
    obtain ⟨A, B, e⟩ := List.append_of_mem (hP.mem_iff.mpr hq)
    refine ⟨A, B, e, ?_⟩
    rw [← ly_ct_perm hP, e]
    rw [e] at hS
    exact ly_ct_mid hS
  obtain ⟨a, b, rfl, hA, hG, _⟩ := hL
  rcases pk_ix x (n := L.length) (by omega) with hx | hx | ⟨j, hj, rfl⟩
  · right
    refine ⟨fun post d p => br_t hx p, ?_⟩
    rcases ly_at x hM with ⟨q, hq, e, h⟩ | ⟨hn, h⟩
    · obtain ⟨A, B, e1, e2⟩ := hct q hq
      rw [e1, List.length_append] at hlen
      rw [e2] at e
      rw [← e] at hx
      exact absurd hx (nI_pos (by omega))
    · exact h
  · right
    refine ⟨fun post d p => br_c (fun _ => p) (fun _ => br_t hx p), ?_⟩
    rcases ly_at x hM with ⟨q, hq, e, h⟩ | ⟨hn, h⟩
    · obtain ⟨A, B, e1, e2⟩ := hct q hq
      have hl2 : A.length < L.length := by rw [e1, List.length_append, List.length_cons]; omega
      rw [e2] at e
      rw [← e] at hx
      exact absurd hx (nI_ge hl2 (by omega))
    · exact h
  · left
    obtain ⟨A, q, B, e1, hl⟩ := ly_nth hj
    have hqL : q ∈ L := by rw [e1]; exact List.mem_append_right _ (List.mem_cons_self ..)
    refine ⟨q.1, hG q hqL, fun post d p => br_f (nI_pos (by omega)) (br_f (nI_ge hj (by omega)) ⟨vp_in_nI (by omega) (by omega), ?_⟩), ?_⟩
    · rw [nI_clamp (by omega), ← hl]
      rw [e1] at hA
      rw [(ly_At_mid hA).1]; exact p
    · rcases ly_at (nI j) hM with ⟨r, hr, e, h⟩ | ⟨hn, h⟩
      · obtain ⟨A', B', e2, e3⟩ := hct r hr
        have hl2 : A'.length < L.length := by rw [e2, List.length_append, List.length_cons]; omega
        rw [e3, nI_eq (by omega) (by omega)] at e
        have e4 := List.append_inj (e1.symm.trans e2) (by omega)
        have e5 : q = r := (List.cons.inj e4.2).1
        rw [e5]; exact h
      · exfalso
        refine hn q (hP.mem_iff.mp hqL) ?_
        rw [← ly_ct_perm hP, e1]
        rw [e1] at hS
        rw [ly_ct_mid hS, hl]
theorem i_vc_select {k : Nat} {u : SX} {v : SY} (I : i_Rel k u v) (hk : k + 4 ≤ 2048) (v1 : Int32) : wpX_select (fun r => wpY_select (fun r' => r' = r ∧ i_Rel (k + 4) u v) v v1) u v1 := by
  obtain ⟨L, M, hL, hM, hP, hS⟩ := id I
  obtain ⟨h, a, b⟩ := u
  obtain ⟨c, a', b'⟩ := v
  unfold wpX_select wpY_select; dsimp only
  rcases ly_atw v1 hL hM hP hS with ⟨w, hw, hX, hY⟩ | ⟨hX, hY⟩
  · exact hX _ _ (hY _ ⟨rfl, I⟩)
  · exact hX _ _ (hY _ ⟨rfl, I⟩)
theorem i_vc_first {k : Nat} {u : SX} {v : SY} (I : i_Rel k u v) (hk : k + 4 ≤ 2048) : wpX_first (fun r => wpY_first (fun r' => r' = r ∧ i_Rel (k + 4) u v) v) u := by
  obtain ⟨L, M, hL, hM, hP, hS⟩ := id I
  obtain ⟨h, a, b⟩ := u
  obtain ⟨c, a', b'⟩ := v
  unfold wpX_first wpY_first; dsimp only
  rcases ly_atw 0 hL hM hP hS with ⟨w, hw, hX, hY⟩ | ⟨hX, hY⟩
  · exact hX _ _ (hY _ ⟨rfl, I⟩)
  · exact hX _ _ (hY _ ⟨rfl, I⟩)
theorem i_vc_last {k : Nat} {u : SX} {v : SY} (I : i_Rel k u v) (hk : k + 4 ≤ 2048) : wpX_last (fun r => wpY_last (fun r' => r' = r ∧ i_Rel (k + 4) u v) v) u := by
  obtain ⟨L, M, hL, hM, hP, hS⟩ := id I
  obtain ⟨h, a, b⟩ := u
  obtain ⟨c, a', b'⟩ := v
  have e : c = h := (ly_len hM).1.trans ((congrArg nI hP.length_eq.symm).trans (ly_len hL).1.symm)
  subst e
  unfold wpX_last wpY_last; dsimp only
  rcases ly_atw (c - 1) hL hM hP hS with ⟨w, hw, hX, hY⟩ | ⟨hX, hY⟩
  · exact hX _ _ (hY _ ⟨rfl, I⟩)
  · exact hX _ _ (hY _ ⟨rfl, I⟩)
theorem i_vc_previous {k : Nat} {u : SX} {v : SY} (I : i_Rel k u v) (hk : k + 4 ≤ 2048) (v1 : Int32) : wpX_previous (fun r => wpY_previous (fun r' => r' = r ∧ i_Rel (k + 4) u v) v v1) u v1 := by
  obtain ⟨L, M, hL, hM, hP, hS⟩ := id I
  obtain ⟨h, a, b⟩ := u
  obtain ⟨c, a', b'⟩ := v
  unfold wpX_previous wpY_previous; dsimp only
  rcases ly_csW v1 with ⟨w, hw, rfl⟩ | hn
  · refine ly_isWord_y hw (br_f (by decide) (ly_place hL hw.1 ?_))
    rcases ly_atw (nI (ly_ct (ly_K w) L) - 1) hL hM hP hS with ⟨q, hq, hX, hY⟩ | ⟨hX, hY⟩
    · have := ly_word_ge hq
      refine hX _ _ (ly_badWord_y hw (br_t rfl (ly_ahead hM hw.1 ?_)))
      rw [← ly_ct_perm hP]
      exact hY _ (br_t (nI_pos' (by omega)) ⟨rfl, I⟩)
    · refine hX _ _ (ly_badWord_y hw (br_t rfl (ly_ahead hM hw.1 ?_)))
      rw [← ly_ct_perm hP]
      exact hY _ (br_f (by decide) ⟨rfl, I⟩)
  · exact ly_isWord_n hn (br_t rfl (ly_badWord_n hn (br_f (by decide) ⟨rfl, I⟩)))
theorem i_vc_next {k : Nat} {u : SX} {v : SY} (I : i_Rel k u v) (hk : k + 4 ≤ 2048) (v1 : Int32) : wpX_next (fun r => wpY_next (fun r' => r' = r ∧ i_Rel (k + 4) u v) v v1) u v1 := by
  obtain ⟨L, M, hL, hM, hP, hS⟩ := id I
  obtain ⟨h, a, b⟩ := u
  obtain ⟨c, a', b'⟩ := v
  unfold wpX_next wpY_next; dsimp only
  rcases ly_csW v1 with ⟨w, hw, rfl⟩ | hn
  · refine ly_isWord_y hw (br_f (by decide) (ly_place hL hw.1 ?_))
    have tail : ∀ x : Int32, (∃ r, (∀ post : Int32 → Prop, post r → wX_next_27 post x h a b) ∧ (∀ post : Int32 → Prop, post r → wY_next_27 post x c a' b')) := by
      intro x
      unfold wX_next_27 wY_next_27
      rcases ly_atw x hL hM hP hS with ⟨q, hq, hX, hY⟩ | ⟨hX, hY⟩
      · have := ly_word_ge hq
        exact ⟨nI q, fun post p => hX _ _ p, fun post p => hY _ (br_t (nI_pos' (by omega)) p)⟩
      · exact ⟨-2, fun post p => hX _ _ p, fun post p => hY _ (br_f (by decide) p)⟩
    rcases ly_look hL hM hP hS hw with ⟨A, x, B, C, D, eL, eM, hl, hX, hY⟩ | ⟨A, B, eL, hl, hA, hB, hX, hY⟩
    · rw [← hl]
      have h2 := (ly_len hM).2
      rw [eM, List.length_append] at h2
      obtain ⟨r, tX, tY⟩ := tail (nI A.length + 1)
      refine hX _ (br_f (by decide) (nm_e (tX _ (ly_badWord_y hw (br_t rfl (ly_ahead hM hw.1 (hY _ (br_f (nI_pos (by omega)) (nm_e ?_)))))))))
      rw [← ly_ct_perm hP, ← hl]
      exact tY _ ⟨rfl, I⟩
    · rw [← hl]
      obtain ⟨r, tX, tY⟩ := tail (nI A.length)
      refine hX _ (br_t rfl (tX _ (ly_badWord_y hw (br_t rfl (ly_ahead hM hw.1 (hY _ (br_t (by decide) ?_)))))))
      rw [← ly_ct_perm hP, ← hl]
      exact tY _ ⟨rfl, I⟩
  · exact ly_isWord_n hn (br_t rfl (ly_badWord_n hn (br_f (by decide) ⟨rfl, I⟩)))
end
section
/-! the shifts -/
theorem ly_ins_l {p h : Nat} {w x : Int32} : ∀ (d : Nat) (a b : Nat → Int32), p + d < 40 → ∃ a' b' : Nat → Int32, (∀ j, j < p → a' j = a j ∧ b' j = b j) ∧ (a' p = w ∧ b' p = x) ∧ (∀ j, p ≤ j → j < p + d → a' (j + 1) = a j ∧ b' (j + 1) = b j) ∧ (∀ j, p + d < j → a' j = a j ∧ b' j = b j) ∧ ∀ post : SX → Prop, post (nI h + 1, a', b') → wX_insertAt_6 post (nI p) w x (nI h) (d + 1) (nI (p + d)) a b := by
  intro d
  induction d with
  | zero =>
    intro a b hp
    refine ⟨upd a p w, upd b p x, fun j hj => ⟨pk_un (by omega), pk_un (by omega)⟩, ⟨pk_us, pk_us⟩, fun j h1 h2 => by omega, fun j hj => ⟨pk_un (by omega), pk_un (by omega)⟩, fun post q => ?_⟩
    refine br_t (nI_le (by omega) (by omega)) ?_
    rw [nI_clamp (by omega)]
    exact ⟨vp_in_nI (by omega) (by omega), nm_e ⟨vp_in_nI (by omega) (by omega), nm_e (nm_e q)⟩⟩
  | succ d ih =>
    intro a b hp
    obtain ⟨a', b', h1, h2, h3, h4, h5⟩ := ih (upd a (p + d + 1) (a (p + d))) (upd b (p + d + 1) (b (p + d))) (by omega)
    refine ⟨a', b', fun j hj => ?_, h2, fun j hj hj2 => ?_, fun j hj => ?_, fun post q => ?_⟩
    · have := h1 j hj
      rw [pk_un (by omega), pk_un (by omega)] at this; exact this
    · rcases Nat.lt_or_ge j (p + d) with z | z
      · have := h3 j hj z
        rw [pk_un (by omega), pk_un (by omega)] at this; exact this
      · obtain rfl : j = p + d := by omega
        have := h4 (p + d + 1) (by omega)
        rw [pk_us, pk_us] at this; exact this
    · have := h4 j (by omega)
      rw [pk_un (by omega), pk_un (by omega)] at this; exact this
    · have e1 : nI (p + (d + 1)) - 1 = nI (p + d) := nI_pred (p + d)
      have e2 : nI (p + (d + 1)) + (-1) = nI (p + d) := pk_m1 (p + d)
      refine br_f (nI_ge (by omega) (by omega)) ?_
      rw [e1, e2, nI_clamp (n := p + d) (by omega), nI_clamp (n := p + (d + 1)) (by omega)]
      exact ⟨vp_in_nI (by omega) (by omega), vp_in_nI (by omega) (by omega), nm_e ⟨vp_in_nI (by omega) (by omega), vp_in_nI (by omega) (by omega), nm_e (nm_e (h5 post q))⟩⟩
theorem ly_ins {u : SX} {A B : List (Nat × Int32)} {w : Nat} (x : Int32) (hR : ly_Rep (A ++ B) u) (hw : ly_Word w) (hl : (A ++ B).length < 40) : ∃ u' : SX, ly_Rep (A ++ (w, x) :: B) u' ∧ ∀ post : SX → Prop, post u' → wpX_insertAt post u (nI A.length) (nI w) x := by
  obtain ⟨a, b, rfl, hA, hG, _⟩ := hR
  have hl2 := hl
  rw [List.length_append] at hl2
  have hAB := ly_At_app.mp hA
  obtain ⟨a', b', h1, h2, h3, h4, h5⟩ := ly_ins_l (p := A.length) (h := (A ++ B).length) (w := nI w) (x := x) B.length a b hl2
  refine ⟨(nI (A ++ B).length + 1, a', b'), ⟨a', b', ?_, ?_, ?_, ?_⟩, fun post q => ?_⟩
  · rw [nI_1, List.length_append, List.length_append, List.length_cons, Nat.add_assoc]
  · refine ly_At_app.mpr ⟨ly_At_mv (i := 0) (fun j hj => ?_) hAB.1, ?_, ly_At_mv (i := 0 + A.length) (fun j hj => ?_) hAB.2⟩
    · have := h1 j hj; rw [Nat.zero_add]; exact this
    · rw [Nat.zero_add]; exact h2
    · have := h3 (A.length + j) (by omega) (by omega)
      rw [Nat.zero_add, show A.length + 1 + j = A.length + j + 1 from by omega]; exact this
  · intro p hp
    rcases List.mem_append.mp hp with z | z
    · exact hG p (List.mem_append_left _ z)
    · rcases List.mem_cons.mp z with rfl | z
      · exact hw
      · exact hG p (List.mem_append_right _ z)
  · rw [List.length_append, List.length_cons]; omega
  · have h6 := h5 post q
    rw [← List.length_append] at h6
    exact Exists.intro _ h6
theorem ly_cut_l {h : Nat} (hh : h ≤ 40) : ∀ (d s e : Nat) (a b : Nat → Int32), e + d = h → s ≤ e → ∃ a' b' : Nat → Int32, (∀ j, j < s → a' j = a j ∧ b' j = b j) ∧ (∀ j, j < d → a' (s + j) = a (e + j) ∧ b' (s + j) = b (e + j)) ∧ ∀ post : SX → Prop, post (nI (s + d), a', b') → wX_cutOut_5 post (nI h) (d + 1) (nI s) (nI e) a b := by
  intro d
  induction d with
  | zero =>
    intro s e a b he hs
    exact ⟨a, b, fun j _ => ⟨rfl, rfl⟩, fun j hj => absurd hj (Nat.not_lt_zero _), fun post q => br_t (nI_le (by omega) (by omega)) q⟩
  | succ d ih =>
    intro s e a b he hs
    obtain ⟨a', b', h1, h2, h3⟩ := ih (s + 1) (e + 1) (upd a s (a e)) (upd b s (b e)) (by omega) (by omega)
    refine ⟨a', b', fun j hj => ?_, fun j hj => ?_, fun post q => ?_⟩
    · have := h1 j (by omega)
      rw [pk_un (by omega), pk_un (by omega)] at this; exact this
    · cases j with
      | zero =>
        have := h1 s (by omega)
        rw [pk_us, pk_us] at this; exact this
      | succ j =>
        have := h2 j (by omega)
        rw [pk_un (by omega), pk_un (by omega), show s + 1 + j = s + (j + 1) from by omega, show e + 1 + j = e + (j + 1) from by omega] at this; exact this
    · refine br_f (nI_ge (by omega) (by omega)) ?_
      rw [nI_clamp (n := s) (by omega), nI_clamp (n := e) (by omega)]
      rw [show s + (d + 1) = s + 1 + d from by omega] at q
      exact ⟨vp_in_nI (by omega) (by omega), vp_in_nI (by omega) (by omega), nm_e ⟨vp_in_nI (by omega) (by omega), vp_in_nI (by omega) (by omega), nm_e (nm_r (nI_1 s) (nm_r (nI_1 e) (h3 post q)))⟩⟩
theorem ly_cut {u : SX} {A C B : List (Nat × Int32)} (hR : ly_Rep (A ++ (C ++ B)) u) : ∃ u' : SX, ly_Rep (A ++ B) u' ∧ ∀ post : SX → Prop, post u' → wpX_cutOut post u (nI A.length) (nI (A.length + C.length)) := by
  obtain ⟨a, b, rfl, hA, hG, hl⟩ := hR
  have hl2 := hl
  rw [List.length_append, List.length_append] at hl2
  have hAB := ly_At_app.mp hA
  have hCB := ly_At_app.mp hAB.2
  obtain ⟨a', b', h1, h2, h3⟩ := ly_cut_l (h := (A ++ (C ++ B)).length) hl B.length A.length (A.length + C.length) a b (by rw [List.length_append, List.length_append]; omega) (by omega)
  refine ⟨(nI (A.length + B.length), a', b'), ⟨a', b', ?_, ?_, ?_, ?_⟩, fun post q => Exists.intro _ (h3 post q)⟩
  · rw [List.length_append]
  · refine ly_At_app.mpr ⟨ly_At_mv (i := 0) (fun j hj => ?_) hAB.1, ly_At_mv (i := 0 + A.length + C.length) (fun j hj => ?_) hCB.2⟩
    · have := h1 j hj; rw [Nat.zero_add]; exact this
    · have := h2 j hj
      rw [Nat.zero_add]; exact this
  · intro p hp
    rcases List.mem_append.mp hp with z | z
    · exact hG p (List.mem_append_left _ z)
    · exact hG p (List.mem_append_right _ (List.mem_append_right _ z))
  · rw [List.length_append]; omega
theorem ly_tk_l {h : Nat} (hh : h < 40) : ∀ (d s : Nat) (a b : Nat → Int32), s + d = h → ∃ a' b' : Nat → Int32, (∀ j, j < s → a' j = a j ∧ b' j = b j) ∧ (∀ j, j < d → a' (s + j) = a (s + 1 + j) ∧ b' (s + j) = b (s + 1 + j)) ∧ ∀ post : SY → Prop, post (nI h, a', b') → wY_takeOut_2 post (nI (h + 1)) (d + 1) (nI s) a b := by
  have e1 : nI (h + 1) - 1 = nI h := nI_pred h
  intro d
  induction d with
  | zero =>
    intro s a b hs
    refine ⟨a, b, fun j _ => ⟨rfl, rfl⟩, fun j hj => absurd hj (Nat.not_lt_zero _), fun post q => br_t ?_ (nm_r e1 q)⟩
    rw [e1]; exact nI_le (by omega) (by omega)
  | succ d ih =>
    intro s a b hs
    obtain ⟨a', b', h1, h2, h3⟩ := ih (s + 1) (upd a s (a (s + 1))) (upd b s (b (s + 1))) (by omega)
    refine ⟨a', b', fun j hj => ?_, fun j hj => ?_, fun post q => ?_⟩
    · have := h1 j (by omega)
      rw [pk_un (by omega), pk_un (by omega)] at this; exact this
    · cases j with
      | zero =>
        have := h1 s (by omega)
        rw [pk_us, pk_us] at this; exact this
      | succ j =>
        have := h2 j (by omega)
        rw [pk_un (by omega), pk_un (by omega), show s + 1 + 1 + j = s + 1 + (j + 1) from by omega, show s + 1 + j = s + (j + 1) from by omega] at this; exact this
    · refine br_f (by rw [e1]; exact nI_ge (by omega) (by omega)) (br_f (nI_ge (b := 39) (by omega) (by omega)) ?_)
      rw [nI_1 s, nI_clamp (n := s) (by omega), nI_clamp (n := s + 1) (by omega)]
      exact ⟨vp_in_nI (by omega) (by omega), vp_in_nI (by omega) (by omega), nm_e ⟨vp_in_nI (by omega) (by omega), vp_in_nI (by omega) (by omega), nm_e (nm_e (h3 post q))⟩⟩
theorem ly_tk {v : SY} {A B : List (Nat × Int32)} {p : Nat × Int32} (hR : ly_Rep (A ++ p :: B) v) : ∃ v' : SY, ly_Rep (A ++ B) v' ∧ ∀ post : SY → Prop, post v' → wpY_takeOut post v (nI A.length) := by
  obtain ⟨a, b, rfl, hA, hG, hl⟩ := hR
  rw [List.length_append, List.length_cons] at hl
  have hAB := ly_At_app.mp hA
  obtain ⟨a', b', h1, h2, h3⟩ := ly_tk_l (h := A.length + B.length) (by omega) B.length A.length a b rfl
  refine ⟨(nI (A.length + B.length), a', b'), ⟨a', b', ?_, ?_, ?_, ?_⟩, fun post q => ?_⟩
  · rw [List.length_append]
  · refine ly_At_app.mpr ⟨ly_At_mv (i := 0) (fun j hj => ?_) hAB.1, ly_At_mv (i := 0 + A.length + 1) (fun j hj => ?_) hAB.2.2⟩
    · have := h1 j hj; rw [Nat.zero_add]; exact this
    · have := h2 j hj
      rw [Nat.zero_add]; exact this
  · intro p hp
    rcases List.mem_append.mp hp with z | z
    · exact hG p (List.mem_append_left _ z)
    · exact hG p (List.mem_append_right _ (List.mem_cons_of_mem _ z))
  · rw [List.length_append]; omega
  · have h6 := h3 post q
    rw [show A.length + B.length + 1 = (A ++ p :: B).length from by rw [List.length_append, List.length_cons]; omega] at h6
    exact Exists.intro _ h6
theorem ly_set {f : Int32} {a b : Nat → Int32} {A B : List (Nat × Int32)} {w : Nat} {x y : Int32} (hR : ly_Rep (A ++ (w, x) :: B) (f, a, b)) : ly_Rep (A ++ (w, y) :: B) (f, a, upd b A.length y) := by
  obtain ⟨a1, b1, e, hA, hG, hl⟩ := hR
  cases e
  have hAB := ly_At_app.mp hA
  refine ⟨a, upd b A.length y, ?_, ?_, ?_, ?_⟩
  · rw [List.length_append, List.length_append, List.length_cons, List.length_cons]
  · refine ly_At_app.mpr ⟨ly_At_mv (i := 0) (fun j hj => ⟨rfl, pk_un (by omega)⟩) hAB.1, ⟨hAB.2.1.1, by rw [Nat.zero_add]; exact pk_us⟩, ly_At_mv (i := 0 + A.length + 1) (fun j hj => ⟨rfl, pk_un (by omega)⟩) hAB.2.2⟩
  · intro p hp
    rcases List.mem_append.mp hp with z | z
    · exact hG p (List.mem_append_left _ z)
    · rcases List.mem_cons.mp z with rfl | z
      · exact hG (w, x) (List.mem_append_right _ (List.mem_cons_self ..))
      · exact hG p (List.mem_append_right _ (List.mem_cons_of_mem _ z))
  · rw [List.length_append, List.length_cons] at hl ⊢; exact hl
theorem ly_add {f : Int32} {a b : Nat → Int32} {M : List (Nat × Int32)} {w : Nat} {x : Int32} (hR : ly_Rep M (f, a, b)) (hw : ly_Word w) (hl : M.length < 40) : ly_Rep (M ++ [(w, x)]) (f + 1, upd a M.length (nI w), upd b M.length x) := by
  obtain ⟨a1, b1, e, hA, hG, _⟩ := hR
  cases e
  refine ⟨upd a M.length (nI w), upd b M.length x, ?_, ly_At_app.mpr ⟨ly_At_mv (i := 0) (fun j hj => ⟨pk_un (by omega), pk_un (by omega)⟩) hA, ?_, trivial⟩, ?_, ?_⟩
  · rw [nI_1, List.length_append]; rfl
  · rw [Nat.zero_add]; exact ⟨pk_us, pk_us⟩
  · intro p hp
    rcases List.mem_append.mp hp with z | z
    · exact hG p z
    · rcases List.mem_cons.mp z with rfl | z
      · exact hw
      · exact nomatch z
  · rw [List.length_append, List.length_cons, List.length_nil]; omega
/-! put, remove, sow -/
theorem ly_Srt_in {A B : List (Nat × Int32)} {q : Nat × Int32} (h : ly_Srt (A ++ B)) (hA : ∀ p, p ∈ A → ly_K p.1 < ly_K q.1) (hB : ∀ p, p ∈ B → ly_K q.1 < ly_K p.1) : ly_Srt (A ++ q :: B) := by
  have h' := List.pairwise_append.mp h
  refine List.pairwise_append.mpr ⟨h'.1, List.pairwise_cons.mpr ⟨hB, h'.2.1⟩, fun x hx y hy => ?_⟩
  rcases List.mem_cons.mp hy with rfl | hy
  · exact hA x hx
  · exact h'.2.2 x hx y hy
theorem ly_pm {A B C D : List (Nat × Int32)} {q : Nat × Int32} (h : (A ++ q :: B).Perm (C ++ q :: D)) : (A ++ B).Perm (C ++ D) :=
  List.Perm.cons_inv ((List.perm_middle.symm.trans h).trans List.perm_middle)
theorem ly_pm' {A B C D : List (Nat × Int32)} {q : Nat × Int32} (h : (A ++ B).Perm (C ++ D)) : (A ++ q :: B).Perm (C ++ q :: D) :=
  List.perm_middle.trans ((List.Perm.cons q h).trans List.perm_middle.symm)
theorem ly_put {u : SX} {v : SY} (hR : ly_R u v) (x1 x2 : Int32) : ∃ (r : Int32) (u' : SX) (v' : SY), ly_R u' v' ∧ (∀ post : Int32 → SX → Prop, post r u' → wpX_put post u x1 x2) ∧ (∀ post : Int32 → SY → Prop, post r v' → wpY_put post v x1 x2) := by
  obtain ⟨L, M, hL, hM, hP, hS⟩ := id hR
  obtain ⟨h, a, b⟩ := u
  obtain ⟨c, a', b'⟩ := v
  unfold wpX_put wpY_put; dsimp only
  rcases ly_csW x1 with ⟨w, hw, rfl⟩ | hn
  · have hlL := ly_len hL
    have hlM := ly_len hM
    have hlen := hP.length_eq
    rcases ly_look hL hM hP hS hw with ⟨A, x, B, C, D, eL, eM, hl, hX, hY⟩ | ⟨A, B, eL, hl, hA, hB, hX, hY⟩
    · subst eL eM
      have h1 := hlL.2
      have h2 := hlM.2
      rw [List.length_append, List.length_cons] at h1 h2
      refine ⟨0, (h, a, upd b A.length x2), (c, a', upd b' C.length x2), ⟨_, _, ly_set hL, ly_set hM, ly_pm' (ly_pm hP), ?_⟩, fun post p => ?_, fun post p => ?_⟩
      · have hm := ly_Srt_mid hS
        exact ly_Srt_in hm.2.2 hm.1 hm.2.1
      · refine ly_isWord_y hw (br_f (by decide) (ly_place hL hw.1 ?_))
        rw [← hl]
        refine hX _ (br_f (by decide) ⟨vp_in_nI (by omega) (by omega), ?_⟩)
        rw [nI_clamp (by omega)]; exact nm_e p
      · refine ly_badWord_y hw (br_t rfl (hY _ (br_f (nI_pos (by omega)) ⟨vp_in_nI (by omega) (by omega), ?_⟩)))
        rw [nI_clamp (by omega)]; exact nm_e p
    · by_cases hf : L.length < 40
      · subst eL
        obtain ⟨u', hu, hU⟩ := ly_ins x2 hL hw hf
        obtain ⟨f1, a1, b1⟩ := u'
        have e : h = nI (A ++ B).length := hlL.1
        have e' : c = nI M.length := hlM.1
        refine ⟨1, (f1, a1, b1), _, ⟨_, _, hu, ly_add (x := x2) hM hw (by omega), ?_, ly_Srt_in hS hA hB⟩, fun post p => ?_, fun post p => ?_⟩
        · exact ((List.perm_middle).trans (List.Perm.cons _ hP)).trans (by rw [List.append_cons, List.append_nil]; exact (List.perm_append_singleton _ _).symm)
        · refine ly_isWord_y hw (br_f (by decide) (ly_place hL hw.1 ?_))
          rw [← hl]
          refine hX _ (br_t rfl (br_t ?_ (hU _ p)))
          rw [e]; exact nI_lt (b := 40) hf (by omega)
        · refine ly_badWord_y hw (br_t rfl (hY _ (br_t (by decide) (br_t ?_ ?_))))
          · rw [e']; exact nI_le (b := 39) (by omega) (by omega)
          · have e2 : c.toNatClampNeg = M.length := by rw [e']; exact nI_clamp (by omega)
            have hin : vp_in c 40 := by rw [e']; exact vp_in_nI (by omega) (by omega)
            rw [e2]
            exact ⟨hin, nm_e ⟨hin, nm_e (nm_e p)⟩⟩
      · have e : h = nI L.length := hlL.1
        have e' : c = nI M.length := hlM.1
        refine ⟨-2, (h, a, b), (c, a', b'), hR, fun post p => ?_, fun post p => ?_⟩
        · refine ly_isWord_y hw (br_f (by decide) (ly_place hL hw.1 ?_))
          rw [← hl]
          refine hX _ (br_t rfl (br_f ?_ p))
          have := hlL.2
          rw [e]; exact nI_nlt (b := 40) (by omega) (by omega)
        · refine ly_badWord_y hw (br_t rfl (hY _ (br_t (by decide) (br_f ?_ p))))
          have := hlM.2
          rw [e']; exact nI_ge (a := 39) (by omega) (by omega)
  · exact ⟨-1, (h, a, b), (c, a', b'), hR, fun post p => ly_isWord_n hn (br_t rfl p), fun post p => ly_badWord_n hn (br_f (by decide) p)⟩
theorem i_vc_put {k : Nat} {u : SX} {v : SY} (I : i_Rel k u v) (hk : k + 4 ≤ 2048) (v1 : Int32) (v2 : Int32) : wpX_put (fun r u' => wpY_put (fun r' v' => r' = r ∧ i_Rel (k + 4) u' v') v v1 v2) u v1 v2 := by
  obtain ⟨r, u', v', hR, hX, hY⟩ := ly_put I v1 v2
  exact hX _ (hY _ ⟨rfl, hR⟩)
theorem i_vc_remove {k : Nat} {u : SX} {v : SY} (I : i_Rel k u v) (hk : k + 4 ≤ 2048) (v1 : Int32) : wpX_remove (fun r u' => wpY_remove (fun r' v' => r' = r ∧ i_Rel (k + 4) u' v') v v1) u v1 := by
  obtain ⟨L, M, hL, hM, hP, hS⟩ := id I
  obtain ⟨h, a, b⟩ := u
  obtain ⟨c, a', b'⟩ := v
  unfold wpX_remove wpY_remove; dsimp only
  rcases ly_csW v1 with ⟨w, hw, rfl⟩ | hn
  · refine ly_isWord_y hw (br_f (by decide) (ly_place hL hw.1 ?_))
    rcases ly_look hL hM hP hS hw with ⟨A, x, B, C, D, eL, eM, hl, hX, hY⟩ | ⟨A, B, eL, hl, hA, hB, hX, hY⟩
    · rw [← hl]
      subst eL eM
      have h2 := (ly_len hM).2
      rw [List.length_append, List.length_cons] at h2
      obtain ⟨u', hu, hU⟩ := ly_cut (A := A) (C := [(w, x)]) (B := B) hL
      obtain ⟨v', hv, hV⟩ := ly_tk hM
      obtain ⟨f1, a1, b1⟩ := u'
      obtain ⟨f2, a2, b2⟩ := v'
      refine hX _ (br_f (by decide) ?_)
      rw [nI_1]
      refine hU _ ?_
      dsimp only
      refine ly_badWord_y hw (br_t rfl (hY _ (br_t (nI_pos' (by omega)) (hV _ ?_))))
      exact ⟨rfl, _, _, hu, hv, ly_pm hP, (ly_Srt_mid hS).2.2⟩
    · rw [← hl]
      exact hX _ (br_t rfl (ly_badWord_y hw (br_t rfl (hY _ (br_f (by decide) ⟨rfl, I⟩)))))
  · exact ly_isWord_n hn (br_t rfl (ly_badWord_n hn (br_f (by decide) ⟨rfl, I⟩)))
theorem ly_sow_l {x1 x3 x4 : Int32} {t : Nat} (ht : t ≤ 30) : ∀ (d i : Nat) (f c : Int32) (a b a' b' : Nat → Int32), i + d = t → ly_R (f, a, b) (c, a', b') → ∃ (r : Int32) (u' : SX) (v' : SY), ly_R u' v' ∧ (∀ post : Int32 → SX → Prop, post r u' → wX_sow_57 post x1 x3 x4 (nI t) (d + 1) (nI i) f a b) ∧ (∀ post : Int32 → SY → Prop, post r v' → wY_sow_65 post x1 x3 x4 (nI t) (d + 1) (nI i) c a' b') := by
  intro d
  induction d with
  | zero =>
    intro i f c a b a' b' hi hR
    obtain ⟨L, M, hL, hM, hP, hS⟩ := id hR
    have e : c = f := (ly_len hM).1.trans ((congrArg nI hP.length_eq.symm).trans (ly_len hL).1.symm)
    subst e
    exact ⟨c, (c, a, b), (c, a', b'), hR, fun post p => br_t (nI_le (by omega) (by omega)) p, fun post p => br_t (nI_le (by omega) (by omega)) p⟩
  | succ d ih =>
    intro i f c a b a' b' hi hR
    obtain ⟨r, ⟨f1, a1, b1⟩, ⟨f2, a2, b2⟩, hR1, hX, hY⟩ := ly_put hR (x1 + (nI i * x4)) (x3 + nI i)
    obtain ⟨r2, u2, v2, hR2, hX2, hY2⟩ := ih (i + 1) f1 f2 a1 b1 a2 b2 (by omega) hR1
    exact ⟨r2, u2, v2, hR2, fun post p => br_f (nI_ge (by omega) (by omega)) (hX _ (nm_r (nI_1 i) (hX2 post p))), fun post p => br_f (nI_ge (by omega) (by omega)) (hY _ (nm_r (nI_1 i) (hY2 post p)))⟩
theorem ly_neg32 {x : Int32} (h : ¬ 0 ≤ x) : x / 32 < 1 := by
  have h1 : x.toInt < 0 := by
    have := Int32.not_le.mp h
    rw [Int32.lt_iff_toInt_lt] at this
    exact this
  have h2 : 0 ≤ (-x.toInt).tdiv 32 := Int.tdiv_nonneg (by omega) (by decide)
  rw [Int.neg_tdiv] at h2
  rw [Int32.lt_iff_toInt_lt, Jvm.Kit.i32_div (by intro z; exact absurd z.2 (by decide))]
  show x.toInt.tdiv 32 < 1
  omega
theorem i_vc_sow {k : Nat} {u : SX} {v : SY} (I : i_Rel k u v) (hk : k + 4 ≤ 2048) (v1 : Int32) (v2 : Int32) (v3 : Int32) : wpX_sow (fun r u' => wpY_sow (fun r' v' => r' = r ∧ i_Rel (k + 4) u' v') v v1 v2 v3) u v1 v2 v3 := by
  obtain ⟨h, a, b⟩ := u
  obtain ⟨c, a', b'⟩ := v
  unfold wpX_sow wpY_sow; dsimp only
  have h32 : ¬ (32 : Int32) = 0 := by decide
  rcases ly_csW v1 with ⟨w, hw, rfl⟩ | hn
  · by_cases h0 : 0 ≤ v2
    · refine ly_isWord_y hw (br_f (by decide) ⟨h32, nm_e ⟨h32, nm_e ?_⟩⟩)
      by_cases h1 : v2 / 32 < 1
      · exact br_t h1 (ly_badWord_y hw (br_t rfl (br_t h0 ⟨h32, nm_e ⟨h32, nm_e (br_t h1 ⟨rfl, I⟩)⟩⟩)))
      · refine br_f h1 ?_
        by_cases h2 : v2 / 32 ≤ 1000
        · refine br_t h2 ?_
          by_cases h3 : v2 - v2 / 32 * 32 < 1
          · exact br_t h3 (ly_badWord_y hw (br_t rfl (br_t h0 ⟨h32, nm_e ⟨h32, nm_e (br_f h1 (br_t h2 (br_t h3 ⟨rfl, I⟩)))⟩⟩)))
          · refine br_f h3 ?_
            by_cases h4 : v2 - v2 / 32 * 32 ≤ 30
            · refine br_t h4 ?_
              obtain ⟨t, ht, et⟩ := nI_of2 (x := v2 - v2 / 32 * 32) (M := 30) (n := 30) (by decide) (fun z => h3 (Int32.lt_trans z (by decide))) h4
              obtain ⟨r, u', v', hR, hX, hY⟩ := ly_sow_l (x1 := nI w) (x3 := v3) (x4 := v2 / 32) ht t 0 h c a b a' b' (by omega) I
              refine Exists.intro (t + 1) ?_
              rw [← et] at hX hY
              refine hX _ (ly_badWord_y hw (br_t rfl (br_t h0 ⟨h32, nm_e ⟨h32, nm_e (br_f h1 (br_t h2 (br_f h3 (br_t h4 ?_))))⟩⟩)))
              exact Exists.intro (t + 1) (hY _ ⟨rfl, hR⟩)
            · exact br_f h4 (ly_badWord_y hw (br_t rfl (br_t h0 ⟨h32, nm_e ⟨h32, nm_e (br_f h1 (br_t h2 (br_f h3 (br_f h4 ⟨rfl, I⟩))))⟩⟩)))
        · exact br_f h2 (ly_badWord_y hw (br_t rfl (br_t h0 ⟨h32, nm_e ⟨h32, nm_e (br_f h1 (br_f h2 ⟨rfl, I⟩))⟩⟩)))
    · exact ly_isWord_y hw (br_f (by decide) ⟨h32, nm_e ⟨h32, nm_e (br_t (ly_neg32 h0) (ly_badWord_y hw (br_t rfl (br_f h0 ⟨rfl, I⟩))))⟩⟩)
  · exact ly_isWord_n hn (br_t rfl (ly_badWord_n hn (br_f (by decide) ⟨rfl, I⟩)))
end
section
def ly_fl (r : Nat) (S : List (Nat × Int32)) : List (Nat × Int32) := S.filter (fun p => ly_bg r p.1)
def ly_fn (r : Nat) (S : List (Nat × Int32)) : List (Nat × Int32) := S.filter (fun p => !ly_bg r p.1)
def ly_sv : List (Nat × Int32) → Int32
  | [] => 0
  | p :: S => p.2 + ly_sv S
theorem ly_fl_y {r : Nat} {p : Nat × Int32} {S : List (Nat × Int32)} (h : ly_bg r p.1 = true) : ly_fl r (p :: S) = p :: ly_fl r S := List.filter_cons_of_pos h
theorem ly_fl_n {r : Nat} {p : Nat × Int32} {S : List (Nat × Int32)} (h : ¬ ly_bg r p.1 = true) : ly_fl r (p :: S) = ly_fl r S := List.filter_cons_of_neg h
theorem ly_bgN {r w : Nat} (h : ¬ ly_bg r w = true) : (!ly_bg r w) = true := by
  cases e : ly_bg r w
  · rfl
  · exact absurd e h
theorem ly_fl_split {r : Nat} {A R B : List (Nat × Int32)} (hA : ∀ p, p ∈ A → ¬ ly_bg r p.1 = true) (hR : ∀ p, p ∈ R → ly_bg r p.1 = true) (hB : ∀ p, p ∈ B → ¬ ly_bg r p.1 = true) : ly_fl r (A ++ (R ++ B)) = R ∧ ly_fn r (A ++ (R ++ B)) = A ++ B := by
  unfold ly_fl ly_fn
  have a1 : A.filter (fun p => ly_bg r p.1) = [] := List.filter_eq_nil_iff.mpr hA
  have b1 : B.filter (fun p => ly_bg r p.1) = [] := List.filter_eq_nil_iff.mpr hB
  have r1 : R.filter (fun p => ly_bg r p.1) = R := List.filter_eq_self.mpr hR
  have a2 : A.filter (fun p => !ly_bg r p.1) = A := List.filter_eq_self.mpr (fun p hp => ly_bgN (hA p hp))
  have b2 : B.filter (fun p => !ly_bg r p.1) = B := List.filter_eq_self.mpr (fun p hp => ly_bgN (hB p hp))
  have r2 : R.filter (fun p => !ly_bg r p.1) = [] := List.filter_eq_nil_iff.mpr (fun p hp => by rw [hR p hp]; decide)
  rw [List.filter_append, List.filter_append, List.filter_append, List.filter_append, a1, b1, r1, a2, b2, r2]
  exact ⟨by rw [List.append_nil, List.nil_append], rfl⟩
theorem ly_sv_perm {A B : List (Nat × Int32)} (h : A.Perm B) : ly_sv A = ly_sv B := by
  induction h with
  | nil => rfl
  | cons p _ ih => show _ + _ = _ + _; rw [ih]
  | swap p q S =>
    show q.2 + (p.2 + ly_sv S) = p.2 + (q.2 + ly_sv S)
    rw [← Int32.add_assoc, Int32.add_comm q.2 p.2, Int32.add_assoc]
  | trans _ _ h1 h2 => exact h1.trans h2
theorem ly_end_l {post : Int32 → Prop} {r N : Nat} {a b : Nat → Int32} {B : List (Nat × Int32)} (hr : ly_Row r) (hN : N ≤ 40) (hB : ∀ p, p ∈ B → ¬ ly_bg r p.1 = true) : ∀ (R : List (Nat × Int32)) (i : Nat), ly_Gd (R ++ B) → ly_At a b i (R ++ B) → i + (R ++ B).length = N → (∀ p, p ∈ R → ly_bg r p.1 = true) → post (nI (i + R.length)) → wX_endOfRange_5 post (nI r) (nI N) a b (R.length + 1) (nI i) (nI i) := by
  intro R
  induction R with
  | nil =>
    intro i hG hA hi _ p
    rw [List.nil_append] at hi hA hG
    cases B with
    | nil =>
      have hi : i + 0 = N := hi
      exact br_t (nI_le (by omega) (by omega)) p
    | cons q B =>
      rw [List.length_cons] at hi
      refine br_f (nI_ge (by omega) (by omega)) ⟨vp_in_nI (by omega) (by omega), ?_⟩
      rw [nI_clamp (by omega), hA.1.1]
      exact ly_isBeg hr (ly_Gd_c hG).1.1 (fun z => absurd z (hB q (List.mem_cons_self ..))) (fun _ => br_t rfl p)
  | cons q R ih =>
    intro i hG hA hi hR p
    rw [List.cons_append] at hi hA hG
    rw [List.length_cons] at hi p
    refine br_f (nI_ge (by omega) (by omega)) ⟨vp_in_nI (by omega) (by omega), ?_⟩
    rw [nI_clamp (by omega), hA.1.1]
    refine ly_isBeg hr (ly_Gd_c hG).1.1 (fun _ => br_f (by decide) (nm_r (nI_1 i) (nm_r (nI_1 i) (ih (i + 1) (ly_Gd_c hG).2 hA.2 (by omega) (fun t ht => hR t (List.mem_cons_of_mem _ ht)) ?_)))) (fun z => absurd (hR q (List.mem_cons_self ..)) z)
    rw [show i + 1 + R.length = i + (R.length + 1) from by omega]; exact p
theorem ly_range {u : SX} {L : List (Nat × Int32)} {r : Nat} (hL : ly_Rep L u) (hS : ly_Srt L) (hr : ly_Row r) : ∃ A R B, L = A ++ (R ++ B) ∧ A.length = ly_ct (ly_K r) L ∧ (∀ p, p ∈ A → ¬ ly_bg r p.1 = true) ∧ (∀ p, p ∈ R → ly_bg r p.1 = true) ∧ (∀ p, p ∈ B → ¬ ly_bg r p.1 = true) ∧ ∀ post : Int32 → Prop, post (nI (A.length + R.length)) → wpX_endOfRange post u (nI r) (nI A.length) := by
  obtain ⟨A, T, e, hl, hA, hT⟩ := ly_split (key := ly_K r) hS
  subst e
  have hS2 : ly_Srt T := (List.pairwise_append.mp hS).2.1
  obtain ⟨R, B, e, _, hR, hB⟩ := ly_split (key := ly_E r) hS2
  subst e
  have hG := ly_gd hL
  have hB' : ∀ p, p ∈ B → ¬ ly_bg r p.1 = true := fun p hp z => by
    have h1 := (ly_bg_K hr (hG p (List.mem_append_right _ (List.mem_append_right _ hp))).1).mp z
    have := hB p hp
    omega
  have hR' : ∀ p, p ∈ R → ly_bg r p.1 = true := fun p hp => (ly_bg_K hr (hG p (List.mem_append_right _ (List.mem_append_left _ hp))).1).mpr ⟨hT p (List.mem_append_left _ hp), hR p hp⟩
  refine ⟨A, R, B, rfl, hl, fun p hp z => ?_, hR', hB', fun post q => ?_⟩
  · have h1 := (ly_bg_K hr (hG p (List.mem_append_left _ hp)).1).mp z
    have := hA p hp
    omega
  · obtain ⟨a, b, rfl, hAt, _, hlen⟩ := hL
    have hAt2 := (ly_At_app.mp hAt).2
    rw [Nat.zero_add] at hAt2
    exact Exists.intro _ (ly_end_l hr hlen hB' R A.length (fun p hp => hG p (List.mem_append_right _ hp)) hAt2 (List.length_append ..).symm hR' q)
/-! count and sum -/
theorem ly_count_l {post : Int32 → Prop} {r N : Nat} {a b : Nat → Int32} (hr : ly_Row r) (hN : N ≤ 40) : ∀ (S : List (Nat × Int32)) (i c : Nat), ly_Gd S → ly_At a b i S → i + S.length = N → post (nI (c + (ly_fl r S).length)) → wY_count_14 post (nI r) (nI N) a b (S.length + 1) (nI c) (nI i) := by
  intro S
  induction S with
  | nil =>
    intro i c _ _ hi p
    have hi : i + 0 = N := hi
    exact br_t (nI_le (by omega) (by omega)) p
  | cons q S ih =>
    intro i c hG hA hi p
    rw [List.length_cons] at hi
    refine br_f (nI_ge (by omega) (by omega)) (br_f (nI_ge (b := 40) (by omega) (by omega)) ⟨vp_in_nI (by omega) (by omega), ?_⟩)
    rw [nI_clamp (by omega), hA.1.1]
    refine ly_begins hr (ly_Gd_c hG).1.1 (fun y => br_f (by decide) (nm_r (nI_1 c) (nm_r (nI_1 i) (ih (i + 1) (c + 1) (ly_Gd_c hG).2 hA.2 (by omega) ?_)))) (fun y => br_t rfl (nm_r (nI_1 i) (ih (i + 1) c (ly_Gd_c hG).2 hA.2 (by omega) ?_)))
    · rw [ly_fl_y y, List.length_cons] at p
      rw [show c + 1 + (ly_fl r S).length = c + ((ly_fl r S).length + 1) from by omega]; exact p
    · rw [ly_fl_n y] at p; exact p
theorem i_vc_count {k : Nat} {u : SX} {v : SY} (I : i_Rel k u v) (hk : k + 4 ≤ 2048) (v1 : Int32) : wpX_count (fun r => wpY_count (fun r' => r' = r ∧ i_Rel (k + 4) u v) v v1) u v1 := by
  obtain ⟨L, M, hL, hM, hP, hS⟩ := id I
  obtain ⟨h, a, b⟩ := u
  obtain ⟨c, a', b'⟩ := v
  unfold wpX_count wpY_count; dsimp only
  rcases ly_csR v1 with ⟨w, hw, rfl⟩ | hn
  · refine ly_isRow_y hw (br_f (by decide) (ly_place hL hw ?_))
    obtain ⟨A, R, B, e, hl, hA, hR, hB, hX⟩ := ly_range hL hS hw
    rw [← hl]
    refine hX _ (ly_badRow_y hw (br_t rfl ?_))
    obtain ⟨a2, b2, e2, hAt, hG, hlen⟩ := id hM
    cases e2
    refine Exists.intro _ (ly_count_l hw hlen M 0 0 hG hAt (by omega) ⟨?_, I⟩)
    have h1 := (hP.filter (fun p => ly_bg w p.1)).length_eq
    have h2 := (ly_fl_split hA hR hB).1
    unfold ly_fl at h2 ⊢
    rw [← h1, e, h2, pk_sub (by omega)]
    exact congrArg nI (by omega)
  · exact ly_isRow_n hn (br_t rfl (ly_badRow_n hn (br_f (by decide) ⟨rfl, I⟩)))
theorem ly_sumY_l {post : Int32 → Prop} {r N : Nat} {a b : Nat → Int32} (hr : ly_Row r) (hN : N ≤ 40) : ∀ (S : List (Nat × Int32)) (i : Nat) (c : Int32), ly_Gd S → ly_At a b i S → i + S.length = N → post (c + ly_sv (ly_fl r S)) → wY_sum_14 post (nI r) (nI N) a b (S.length + 1) c (nI i) := by
  intro S
  induction S with
  | nil =>
    intro i c _ _ hi p
    have hi : i + 0 = N := hi
    refine br_t (nI_le (by omega) (by omega)) ?_
    have p : post (c + 0) := p
    rw [Int32.add_zero] at p; exact p
  | cons q S ih =>
    intro i c hG hA hi p
    rw [List.length_cons] at hi
    refine br_f (nI_ge (by omega) (by omega)) (br_f (nI_ge (b := 40) (by omega) (by omega)) ⟨vp_in_nI (by omega) (by omega), ?_⟩)
    rw [nI_clamp (by omega), hA.1.1, hA.1.2]
    refine ly_begins hr (ly_Gd_c hG).1.1 (fun y => br_f (by decide) ⟨vp_in_nI (by omega) (by omega), nm_e (nm_r (nI_1 i) (ih (i + 1) _ (ly_Gd_c hG).2 hA.2 (by omega) ?_))⟩) (fun y => br_t rfl (nm_r (nI_1 i) (ih (i + 1) c (ly_Gd_c hG).2 hA.2 (by omega) ?_)))
    · rw [ly_fl_y y] at p
      rw [Int32.add_assoc]; exact p
    · rw [ly_fl_n y] at p; exact p
theorem ly_sumX_l {post : Int32 → Prop} {N : Nat} {h : Int32} {a b : Nat → Int32} (hN : N ≤ 40) : ∀ (S : List (Nat × Int32)) (i : Nat) (c : Int32), ly_At a b i S → i + S.length = N → post (c + ly_sv S) → wX_sum_28 post (nI N) h a b (S.length + 1) c (nI i) := by
  intro S
  induction S with
  | nil =>
    intro i c _ hi p
    have hi : i + 0 = N := hi
    refine br_t (nI_le (by omega) (by omega)) ?_
    have p : post (c + 0) := p
    rw [Int32.add_zero] at p; exact p
  | cons q S ih =>
    intro i c hA hi p
    rw [List.length_cons] at hi
    refine br_f (nI_ge (by omega) (by omega)) ⟨vp_in_nI (by omega) (by omega), ?_⟩
    rw [nI_clamp (by omega), hA.1.2]
    refine nm_e (nm_r (nI_1 i) (ih (i + 1) _ hA.2 (by omega) ?_))
    rw [Int32.add_assoc]; exact p
theorem i_vc_sum {k : Nat} {u : SX} {v : SY} (I : i_Rel k u v) (hk : k + 4 ≤ 2048) (v1 : Int32) : wpX_sum (fun r => wpY_sum (fun r' => r' = r ∧ i_Rel (k + 4) u v) v v1) u v1 := by
  obtain ⟨L, M, hL, hM, hP, hS⟩ := id I
  obtain ⟨h, a, b⟩ := u
  obtain ⟨c, a', b'⟩ := v
  unfold wpX_sum wpY_sum; dsimp only
  rcases ly_csR v1 with ⟨w, hw, rfl⟩ | hn
  · refine ly_isRow_y hw (br_f (by decide) (ly_place hL hw ?_))
    obtain ⟨A, R, B, e, hl, hA, hR, hB, hX⟩ := ly_range hL hS hw
    rw [← hl]
    refine hX _ ?_
    obtain ⟨a1, b1, e1, hAt1, _, hlen1⟩ := id hL
    cases e1
    rw [e] at hAt1 hlen1
    rw [List.length_append, List.length_append] at hlen1
    have hAR := (ly_At_app.mp (ly_At_app.mp hAt1).2).1
    rw [Nat.zero_add] at hAR
    refine Exists.intro _ (ly_sumX_l (by omega) R A.length 0 hAR rfl (ly_badRow_y hw (br_t rfl ?_)))
    obtain ⟨a2, b2, e2, hAt, hG, hlen⟩ := id hM
    cases e2
    refine Exists.intro _ (ly_sumY_l hw hlen M 0 0 hG hAt (by omega) ⟨?_, I⟩)
    have h1 := ly_sv_perm (hP.filter (fun p => ly_bg w p.1))
    have h2 := (ly_fl_split hA hR hB).1
    unfold ly_fl at h2 ⊢
    rw [← h1, e, h2]
  · exact ly_isRow_n hn (br_t rfl (ly_badRow_n hn (br_f (by decide) ⟨rfl, I⟩)))
/-! clear -/
theorem ly_last : ∀ {S : List (Nat × Int32)} {j : Nat}, S.length = j + 1 → ∃ S' q, S = S' ++ [q] ∧ S'.length = j := by
  intro S j h
  obtain ⟨A, q, B, e, hl⟩ := ly_nth (L := S) (j := j) (by omega)
  have hB : B = [] := by
    rw [e, List.length_append, List.length_cons] at h
    exact List.length_eq_zero_iff.mp (by omega)
  subst hB
  exact ⟨A, q, e, hl⟩
theorem ly_f1 {f : Nat × Int32 → Bool} {q : Nat × Int32} (h : f q = true) : [q].filter f = [q] := by rw [List.filter_cons_of_pos h, List.filter_nil]
theorem ly_f0 {f : Nat × Int32 → Bool} {q : Nat × Int32} (h : ¬ f q = true) : [q].filter f = [] := by rw [List.filter_cons_of_neg h, List.filter_nil]
theorem ly_clr_l {post : Int32 → SY → Prop} {r : Nat} (hr : ly_Row r) : ∀ (j c : Nat) (S T : List (Nat × Int32)) (f : Int32) (a b : Nat → Int32), j ≤ 40 → S.length ≤ j → (S.length = j ∨ T = []) → ly_Rep (S ++ T) (f, a, b) → (∀ v', ly_Rep (ly_fn r S ++ T) v' → post (nI (c + (ly_fl r S).length)) v') → wY_clear_15 post (nI r) (j + 1) (nI c) (nI j + (-1)) f a b := by
  intro j
  induction j with
  | zero =>
    intro c S T f a b _ hS _ hR p
    obtain rfl : S = [] := List.length_eq_zero_iff.mp (by omega)
    exact br_t (by decide) (p _ hR)
  | succ j ih =>
    intro c S T f a b hj hS hT hR p
    have hlen := ly_len hR
    have ef : f = nI (S ++ T).length := hlen.1
    rw [pk_m1]
    refine br_f (nI_pos (by omega)) ?_
    by_cases hc : (S ++ T).length ≤ j
    · refine br_t (by rw [ef]; exact nI_le hc (by omega)) (nm_e (ih c S T f a b (by omega) ?_ (Or.inr ?_) hR p))
      · rw [List.length_append] at hc; omega
      · rw [List.length_append] at hc
        rcases hT with z | z
        · omega
        · exact z
    · refine br_f (by rw [ef]; exact nI_ge (by omega) (by have := hlen.2; omega)) ?_
      have hSj : S.length = j + 1 := by
        rcases hT with z | z
        · exact z
        · subst z; rw [List.append_nil] at hc; omega
      obtain ⟨S', q, e, hl⟩ := ly_last hSj
      subst e
      have hR2 : ly_Rep (S' ++ q :: T) (f, a, b) := by rw [List.append_assoc] at hR; exact hR
      have hq : ly_Word q.1 := ly_gd hR2 q (List.mem_append_right _ (List.mem_cons_self ..))
      have haq : a j = nI q.1 := by
        obtain ⟨a1, b1, e1, hAt, _, _⟩ := id hR2
        cases e1
        rw [← hl]; exact (ly_At_mid hAt).1
      refine ⟨vp_in_nI (by omega) (by omega), ?_⟩
      rw [nI_clamp (by omega), haq]
      refine ly_begins hr hq.1 (fun y => br_f (by decide) ?_) (fun y => br_t rfl (nm_e (ih c S' (q :: T) f a b (by omega) (by omega) (Or.inl hl) hR2 ?_)))
      · obtain ⟨v1, hv, hV⟩ := ly_tk hR2
        obtain ⟨f1, a1, b1⟩ := v1
        rw [← hl]
        refine hV _ ?_
        dsimp only
        refine nm_r (nI_1 c) (nm_e ?_)
        rw [hl]
        refine ih (c + 1) S' T f1 a1 b1 (by omega) (by omega) (Or.inl hl) hv (fun v' hv' => ?_)
        have e1 : ly_fn r (S' ++ [q]) = ly_fn r S' := by
          unfold ly_fn; rw [List.filter_append, ly_f0 (f := fun p => !ly_bg r p.1) (by rw [y]; decide), List.append_nil]
        have e2 : ly_fl r (S' ++ [q]) = ly_fl r S' ++ [q] := by
          unfold ly_fl; rw [List.filter_append, ly_f1 (f := fun p => ly_bg r p.1) y]
        have p2 := p v' (by rw [e1]; exact hv')
        rw [e2, List.length_append] at p2
        rw [show c + 1 + (ly_fl r S').length = c + ((ly_fl r S').length + [q].length) from by rw [List.length_cons, List.length_nil]; omega]
        exact p2
      · intro v' hv'
        have e1 : ly_fn r (S' ++ [q]) = ly_fn r S' ++ [q] := by
          unfold ly_fn; rw [List.filter_append, ly_f1 (f := fun p => !ly_bg r p.1) (ly_bgN y)]
        have e2 : ly_fl r (S' ++ [q]) = ly_fl r S' := by
          unfold ly_fl; rw [List.filter_append, ly_f0 (f := fun p => ly_bg r p.1) y, List.append_nil]
        have p2 := p v' (by rw [e1, List.append_assoc]; exact hv')
        rw [e2] at p2
        exact p2
theorem i_vc_clear {k : Nat} {u : SX} {v : SY} (I : i_Rel k u v) (hk : k + 4 ≤ 2048) (v1 : Int32) : wpX_clear (fun r u' => wpY_clear (fun r' v' => r' = r ∧ i_Rel (k + 4) u' v') v v1) u v1 := by
  obtain ⟨L, M, hL, hM, hP, hS⟩ := id I
  obtain ⟨h, a, b⟩ := u
  obtain ⟨c, a', b'⟩ := v
  unfold wpX_clear wpY_clear; dsimp only
  rcases ly_csR v1 with ⟨w, hw, rfl⟩ | hn
  · refine ly_isRow_y hw (br_f (by decide) (ly_place hL hw ?_))
    obtain ⟨A, R, B, e, hl, hA, hR, hB, hX⟩ := ly_range hL hS hw
    rw [← hl]
    subst e
    obtain ⟨u', hu, hU⟩ := ly_cut hL
    obtain ⟨f1, a1, b1⟩ := u'
    refine hX _ (hU _ ?_)
    dsimp only
    have hlen := (ly_len hM).2
    refine ly_badRow_y hw (br_t rfl (Exists.intro 41 (ly_clr_l hw 40 0 M [] c a' b' (by omega) hlen (Or.inr rfl) (by rw [List.append_nil]; exact hM) (fun v' hv' => ?_))))
    rw [List.append_nil] at hv'
    have h1 := (hP.filter (fun p => ly_bg w p.1)).length_eq
    have h3 := hP.filter (fun p => !ly_bg w p.1)
    have h2 := ly_fl_split hA hR hB
    have h4 : ly_Srt (ly_fn w (A ++ (R ++ B))) := List.Pairwise.filter _ hS
    rw [h2.2] at h4
    refine ⟨?_, _, _, hu, hv', ?_, h4⟩
    · unfold ly_fl at h2 ⊢
      rw [← h1, h2.1, pk_sub (by omega)]
      exact congrArg nI (by omega)
    · rw [← h2.2]; exact h3
  · exact ly_isRow_n hn (br_t rfl (ly_badRow_n hn (br_f (by decide) ⟨rfl, I⟩)))
end
section
/-! longest; -2 stands for none, here 0 -/
def ly_enc (Q : Nat) : Int32 := if Q = 0 then -2 else nI Q
theorem ly_enc0 : ly_enc 0 = -2 := rfl
theorem ly_encS {Q : Nat} (h : 1 ≤ Q) : ly_enc Q = nI Q := if_neg (by omega)
theorem ly_m2lt {q : Nat} (h : q < 524288) : ¬ nI q ≤ -2 := by
  intro z
  exact absurd (Int32.le_trans (nI_pos' (by omega)) z) (by decide)
theorem ly_enc_le {q Q : Nat} (h1 : 1 ≤ q) (h2 : q < 524288) (h3 : Q < 524288) : nI q ≤ ly_enc Q ↔ q ≤ Q := by
  rcases Nat.eq_zero_or_pos Q with e | e
  · subst e
    rw [ly_enc0]
    exact ⟨fun z => absurd z (ly_m2lt h2), fun z => by omega⟩
  · rw [ly_encS e, nI_leI (by omega) (by omega)]
def ly_LS (w : Nat) (S : List (Nat × Int32)) (Q0 Q : Nat) : Prop := (∀ p, p ∈ S → ly_bg p.1 w = true → p.1 ≤ Q) ∧ Q0 ≤ Q ∧ (Q = Q0 ∨ ∃ p, p ∈ S ∧ ly_bg p.1 w = true ∧ Q = p.1)
theorem ly_lgY_l {post : Int32 → Prop} {w N : Nat} {a b : Nat → Int32} (hw : ly_Row w) (hN : N ≤ 40) : ∀ (S : List (Nat × Int32)) (i Q : Nat), ly_Gd S → ly_At a b i S → i + S.length = N → Q < 524288 → (∀ Q', ly_LS w S Q Q' → post (ly_enc Q')) → wY_longest_15 post (nI w) (nI N) a b (S.length + 1) (ly_enc Q) (nI i) := by
  intro S
  induction S with
  | nil =>
    intro i Q _ _ hi _ p
    have hi : i + 0 = N := hi
    exact br_t (nI_le (by omega) (by omega)) (p Q ⟨fun _ z => (nomatch z), Nat.le_refl _, Or.inl rfl⟩)
  | cons q S ih =>
    intro i Q hG hA hi hQ p
    rw [List.length_cons] at hi
    have hq := ly_word_ge (ly_Gd_c hG).1
    refine br_f (nI_ge (by omega) (by omega)) (br_f (nI_ge (b := 40) (by omega) (by omega)) ⟨vp_in_nI (by omega) (by omega), ?_⟩)
    rw [nI_clamp (by omega), hA.1.1, ly_enc_le (by omega) hq.2 hQ]
    refine ly_begins (ly_Gd_c hG).1.1 hw (fun y => br_f (by decide) ⟨vp_in_nI (by omega) (by omega), br_c (fun l => nm_r (nI_1 i) (ih (i + 1) Q (ly_Gd_c hG).2 hA.2 (by omega) hQ (fun Q' h => p Q' ?_))) (fun l => ⟨vp_in_nI (by omega) (by omega), nm_r (ly_encS (by omega)).symm (nm_r (nI_1 i) (ih (i + 1) q.1 (ly_Gd_c hG).2 hA.2 (by omega) hq.2 (fun Q' h => p Q' ?_)))⟩)⟩) (fun y => br_t rfl (nm_r (nI_1 i) (ih (i + 1) Q (ly_Gd_c hG).2 hA.2 (by omega) hQ (fun Q' h => p Q' ?_))))
    · refine ⟨fun t ht hb => ?_, h.2.1, ?_⟩
      · rcases List.mem_cons.mp ht with rfl | ht
        · have := h.2.1; omega
        · exact h.1 t ht hb
      · rcases h.2.2 with z | ⟨t, ht, z⟩
        · exact Or.inl z
        · exact Or.inr ⟨t, List.mem_cons_of_mem _ ht, z⟩
    · refine ⟨fun t ht hb => ?_, by have := h.2.1; omega, ?_⟩
      · rcases List.mem_cons.mp ht with rfl | ht
        · exact h.2.1
        · exact h.1 t ht hb
      · rcases h.2.2 with z | ⟨t, ht, z⟩
        · exact Or.inr ⟨q, List.mem_cons_self .., y, z⟩
        · exact Or.inr ⟨t, List.mem_cons_of_mem _ ht, z⟩
    · refine ⟨fun t ht hb => ?_, h.2.1, ?_⟩
      · rcases List.mem_cons.mp ht with rfl | ht
        · exact absurd hb y
        · exact h.1 t ht hb
      · rcases h.2.2 with z | ⟨t, ht, z⟩
        · exact Or.inl z
        · exact Or.inr ⟨t, List.mem_cons_of_mem _ ht, z⟩
theorem ly_lgX_l {post : Int32 → Prop} {w n : Nat} {h : Int32} {a b : Nat → Int32} {L : List (Nat × Int32)} (hw : ly_Rw n w) (hL : ly_Rep L (h, a, b)) (hS : ly_Srt L) (p : ∀ Q, ly_LS w L 0 Q → post (ly_enc Q)) : ∀ d i, i + d = 6 → i ≤ n → (∀ q, q ∈ L → ∀ k, k < i → w / 8 ^ k ≠ q.1) → wX_longest_13 post h a b (d + 1) (nI (w / 8 ^ i)) (nI i) := by
  have hG := ly_gd hL
  have hwl := ly_rw_lt hw
  have mono : ∀ i k, i ≤ k → w / 8 ^ k ≤ w / 8 ^ i := fun i k hik => Nat.div_le_div_left (Nat.pow_le_pow_right (by omega) hik) (Nat.pos_of_ne_zero (by intro z; simp at z))
  have none : ∀ i, (∀ q, q ∈ L → ∀ k, k < i → w / 8 ^ k ≠ q.1) → w / 8 ^ i ≤ 1 → ly_LS w L 0 0 := by
    intro i hn h1
    refine ⟨fun q hq hb => ?_, Nat.le_refl _, Or.inl rfl⟩
    obtain ⟨k, _, e⟩ := ly_bg_iff.mp hb
    have h8 := ly_word_ge (hG q hq)
    rcases Nat.lt_or_ge k i with z | z
    · exact absurd e (hn q hq k z)
    · have := mono i k z
      omega
  intro d
  induction d with
  | zero =>
    intro i hi hin hn
    obtain rfl : i = 6 := by omega
    refine br_t (nI_le (a := 6) (by omega) (by omega)) (p 0 (none 6 hn ?_))
    simp only [Nat.reducePow]; omega
  | succ d ih =>
    intro i hi hin hn
    have hle : w / 8 ^ i ≤ w := Nat.div_le_self _ _
    have hrow := ly_rw_divk hw i hin
    refine br_f (nI_ge (b := 6) (by omega) (by omega)) (pk_le (w / 8 ^ i) 1 (fun l => p 0 (none i hn l)) (fun l => ?_) rfl rfl (by omega) (by omega))
    have hword : ly_Word (w / 8 ^ i) := ly_row_word (ly_row_of hrow) (by omega)
    refine ly_place hL hword.1 ?_
    rcases ly_hold hword.1 hG hS with ⟨A, x, B, e, hl⟩ | ⟨A, B, e, hl, hA, hB⟩
    · rw [← hl]
      have hin2 : (w / 8 ^ i, x) ∈ L := by rw [e]; exact List.mem_append_right _ (List.mem_cons_self ..)
      have hL2 := hL
      rw [e] at hL2
      refine ly_held_y hL2 (br_f (by decide) ?_)
      have hp := p (w / 8 ^ i) ⟨fun q hq hb => ?_, by omega, Or.inr ⟨_, hin2, ly_bg_iff.mpr ⟨i, by omega, rfl⟩, rfl⟩⟩
      · rw [ly_encS (by omega)] at hp; exact hp
      · obtain ⟨k, _, e⟩ := ly_bg_iff.mp hb
        rcases Nat.lt_or_ge k i with z | z
        · exact absurd e (hn q hq k z)
        · have := mono i k z
          omega
    · rw [← hl]
      have hL2 := hL
      rw [e] at hL2
      refine ly_held_n hL2 (fun q hq z => ?_) (by omega) (br_t rfl (ly_wll (by omega) (nm_r (nI_1 i) ?_)))
      · have := hB q hq
        rw [z] at this; exact Nat.lt_irrefl _ this
      · rw [Nat.div_div_eq_div_mul, ← Nat.pow_succ]
        refine ih (i + 1) (by omega) ?_ (fun q hq k hk => ?_)
        · rcases Nat.lt_or_ge i n with z | z
          · exact z
          · rw [show n - i = 0 from by omega] at hrow
            have := ly_rw0 hrow
            omega
        · rcases Nat.lt_or_ge k i with z | z
          · exact hn q hq k z
          · obtain rfl : k = i := by omega
            intro ee
            rw [e] at hq
            rcases List.mem_append.mp hq with y | y
            · have := hA q y; rw [← ee] at this; exact Nat.lt_irrefl _ this
            · have := hB q y; rw [← ee] at this; exact Nat.lt_irrefl _ this
theorem i_vc_longest {k : Nat} {u : SX} {v : SY} (I : i_Rel k u v) (hk : k + 4 ≤ 2048) (v1 : Int32) : wpX_longest (fun r => wpY_longest (fun r' => r' = r ∧ i_Rel (k + 4) u v) v v1) u v1 := by
  obtain ⟨L, M, hL, hM, hP, hS⟩ := id I
  obtain ⟨h, a, b⟩ := u
  obtain ⟨c, a', b'⟩ := v
  unfold wpX_longest wpY_longest; dsimp only
  rcases ly_csW v1 with ⟨w, hw, rfl⟩ | hn
  · refine ly_isWord_y hw (br_f (by decide) ?_)
    have hX := ly_lgX_l (post := fun r => wpY_badWord (fun r_1 => (((r_1 = 0 → (∃ n15 : Nat, wY_longest_15 (fun r' => r' = r ∧ i_Rel (k + 4) (h, a, b) (c, a', b')) (nI w) c a' b' n15 (-2) 0)) ∧ (¬ r_1 = 0 → (-1 = r ∧ i_Rel (k + 4) (h, a, b) (c, a', b')))))) (c, a', b') (nI w)) hw.1 hL hS (fun Q hQ => ?_) 6 0 rfl (by omega) (fun q hq k hk => by omega)
    · rw [Nat.pow_zero, Nat.div_one] at hX
      exact Exists.intro _ hX
    · refine ly_badWord_y hw (br_t rfl ?_)
      obtain ⟨a2, b2, e2, hAt, hG, hlen⟩ := id hM
      cases e2
      refine Exists.intro _ (ly_lgY_l hw.1 hlen M 0 0 hG hAt (by omega) (by omega) (fun Q' hQ' => ⟨congrArg ly_enc ?_, I⟩))
      have hGL := ly_gd hL
      have h1 : Q ≤ Q' := by
        rcases hQ.2.2 with z | ⟨t, ht, hb, z⟩
        · omega
        · have := hQ'.1 t (hP.mem_iff.mp ht) hb
          omega
      have h2 : Q' ≤ Q := by
        rcases hQ'.2.2 with z | ⟨t, ht, hb, z⟩
        · omega
        · have := hQ.1 t (hP.mem_iff.mpr ht) hb
          omega
      omega
  · exact ly_isWord_n hn (br_t rfl (ly_badWord_n hn (br_f (by decide) ⟨rfl, I⟩)))
end
section
/-! common -/
theorem ly_cm_l {post : Int32 → Prop} {J : Int32 → Int32 → Prop} {x1 : Int32} {N i w : Nat} {a b : Nat → Int32} (hw : ly_Row w) (hi : i < 40) (ha : a i = nI w) : ∀ d j n Q, j + d = 6 → ly_Rw n Q → (ly_bg Q w = true ∨ n ≤ d) → (∀ Q', ly_Meet Q w Q' → J (nI Q') (nI (i + 1))) → wY_common_57 post J x1 (nI i) (nI N) a b (d + 1) (nI Q) (nI j) := by
  intro d
  induction d with
  | zero =>
    intro j n Q hj hQ hb p
    have hb2 : ly_bg Q w = true := by
      rcases hb with z | z
      · exact z
      · obtain rfl : n = 0 := by omega
        rw [ly_rw0 hQ]; exact ly_bg_1 hw
    exact br_t (nI_le (a := 6) (by omega) (by omega)) (nm_r (nI_1 i) (p Q ⟨ly_row_of hQ, fun q hq => ⟨fun z => ⟨z, ly_bg_trans hq (ly_row_of hQ) hw z hb2⟩, fun z => z.1⟩⟩))
  | succ d ih =>
    intro j n Q hj hQ hb p
    have hQl := ly_rw_lt hQ
    refine br_f (nI_ge (b := 6) (by omega) (by omega)) ⟨vp_in_nI (by omega) (by omega), ?_⟩
    rw [nI_clamp (by omega), ha]
    refine ly_begins (ly_row_of hQ) hw (fun y => br_f (by decide) (nm_r (nI_1 j) (ih (j + 1) n Q (by omega) hQ (Or.inl y) p))) (fun y => br_t rfl (nm_r (ly_shr3 hQl.2) (nm_r (nI_1 j) ?_)))
    cases n with
    | zero =>
      rw [ly_rw0 hQ] at y
      exact absurd (ly_bg_1 hw) y
    | succ n =>
      refine ih (j + 1) n (Q / 8) (by omega) (ly_rw_div hQ) (Or.inr ?_) (fun Q' h => p Q' ⟨h.1, fun q hq => (h.2 q hq).trans ⟨fun z => ⟨ly_bg_up (ly_rw_lt hq).1 hQl.2 z.1, z.2⟩, fun z => ⟨ly_bg_down z.1 ?_, z.2⟩⟩⟩)
      · rcases hb with z | z
        · exact absurd z y
        · omega
      · rintro rfl
        exact y z.2
def ly_CS (r : Nat) (S : List (Nat × Int32)) (Q0 Q : Nat) : Prop := (Q = 0 ∧ Q0 = 0 ∧ ∀ p, p ∈ S → ¬ ly_bg r p.1 = true) ∨ (ly_Row Q ∧ (Q0 ≠ 0 ∨ ∃ p, p ∈ S ∧ ly_bg r p.1 = true) ∧ ∀ q, ly_Row q → (ly_bg q Q = true ↔ (Q0 ≠ 0 → ly_bg q Q0 = true) ∧ ∀ p, p ∈ S → ly_bg r p.1 = true → ly_bg q p.1 = true))
theorem ly_CS_no {r Q0 Q : Nat} {p : Nat × Int32} {S : List (Nat × Int32)} (y : ¬ ly_bg r p.1 = true) (h : ly_CS r S Q0 Q) : ly_CS r (p :: S) Q0 Q := by
  rcases h with ⟨h1, h2, h3⟩ | ⟨h1, h2, h3⟩
  · refine Or.inl ⟨h1, h2, fun t ht => ?_⟩
    rcases List.mem_cons.mp ht with rfl | ht
    · exact y
    · exact h3 t ht
  · refine Or.inr ⟨h1, ?_, fun q hq => (h3 q hq).trans ⟨fun z => ⟨z.1, fun t ht hb => ?_⟩, fun z => ⟨z.1, fun t ht hb => z.2 t (List.mem_cons_of_mem _ ht) hb⟩⟩⟩
    · rcases h2 with z | ⟨t, ht, z⟩
      · exact Or.inl z
      · exact Or.inr ⟨t, List.mem_cons_of_mem _ ht, z⟩
    · rcases List.mem_cons.mp ht with rfl | ht
      · exact absurd hb y
      · exact z.2 t ht hb
theorem ly_CS_yes {r Q0 Q1 Q : Nat} {p : Nat × Int32} {S : List (Nat × Int32)} (y : ly_bg r p.1 = true) (hQ1 : ly_Row Q1) (h1 : ∀ q, ly_Row q → (ly_bg q Q1 = true ↔ (Q0 ≠ 0 → ly_bg q Q0 = true) ∧ ly_bg q p.1 = true)) (h : ly_CS r S Q1 Q) : ly_CS r (p :: S) Q0 Q := by
  have hne : Q1 ≠ 0 := by have := ly_rw_lt hQ1; omega
  rcases h with ⟨_, h2, _⟩ | ⟨h2, _, h3⟩
  · exact absurd h2 hne
  · refine Or.inr ⟨h2, Or.inr ⟨p, List.mem_cons_self .., y⟩, fun q hq => (h3 q hq).trans ⟨fun z => ?_, fun z => ⟨fun _ => (h1 q hq).mpr ⟨z.1, z.2 p (List.mem_cons_self ..) y⟩, fun t ht hb => z.2 t (List.mem_cons_of_mem _ ht) hb⟩⟩⟩
    have z1 := (h1 q hq).mp (z.1 hne)
    refine ⟨z1.1, fun t ht hb => ?_⟩
    rcases List.mem_cons.mp ht with rfl | ht
    · exact z1.2
    · exact z.2 t ht hb
theorem ly_com_l {post : Int32 → Prop} {r N : Nat} {a b : Nat → Int32} (hr : ly_Row r) (hN : N ≤ 40) : ∀ (S : List (Nat × Int32)) (i Q : Nat), ly_Gd S → ly_At a b i S → i + S.length = N → (Q = 0 ∨ ly_Row Q) → (∀ Q', ly_CS r S Q Q' → post (ly_enc Q')) → wY_common_15 post (nI r) (nI N) a b (S.length + 1) (ly_enc Q) (nI i) := by
  intro S
  induction S with
  | nil =>
    intro i Q _ _ hi hQ p
    have hi : i + 0 = N := hi
    refine br_t (nI_le (by omega) (by omega)) (p Q ?_)
    rcases hQ with z | z
    · exact Or.inl ⟨z, z, fun _ y => (nomatch y)⟩
    · have hne : Q ≠ 0 := by have := ly_rw_lt z; omega
      exact Or.inr ⟨z, Or.inl hne, fun q hq => ⟨fun y => ⟨fun _ => y, fun _ x => (nomatch x)⟩, fun y => y.1 hne⟩⟩
  | cons t S ih =>
    intro i Q hG hA hi hQ p
    rw [List.length_cons] at hi
    have ht := (ly_Gd_c hG).1
    have hn6 := ht.1.1
    have htl := ly_rw_lt ht.1
    refine br_f (nI_ge (by omega) (by omega)) (br_f (nI_ge (b := 40) (by omega) (by omega)) ⟨vp_in_nI (by omega) (by omega), ?_⟩)
    rw [nI_clamp (by omega), hA.1.1]
    refine ly_begins hr ht.1 (fun y => br_f (by decide) ?_) (fun y => br_t rfl (nm_r (nI_1 i) (ih (i + 1) Q (ly_Gd_c hG).2 hA.2 (by omega) hQ (fun Q' h => p Q' (ly_CS_no y h)))))
    have go : ∀ Q1, ly_Row Q1 → (∀ q, ly_Row q → (ly_bg q Q1 = true ↔ (Q ≠ 0 → ly_bg q Q = true) ∧ ly_bg q t.1 = true)) → wY_common_15 post (nI r) (nI N) a b (S.length + 1) (nI Q1) (nI (i + 1)) := by
      intro Q1 h1 h2
      have := ih (i + 1) Q1 (ly_Gd_c hG).2 hA.2 (by omega) (Or.inr h1) (fun Q' h => p Q' (ly_CS_yes y h1 h2 h))
      rw [ly_encS (ly_rw_lt h1).1] at this
      exact this
    rcases hQ with z | z
    · subst z
      refine br_f (by decide) ⟨vp_in_nI (by omega) (by omega), nm_e (Exists.intro 7 (ly_cm_l ht.1 (by omega) hA.1.1 6 0 _ t.1 rfl ht.1 (Or.inl (ly_bg_refl _)) (fun Q1 h1 => go Q1 h1.1 (fun q hq => (h1.2 q hq).trans ⟨fun z => ⟨fun y => absurd rfl y, z.1⟩, fun z => ⟨z.2, z.2⟩⟩))))⟩
    · have hQl := ly_rw_lt z
      have h6 := z.1
      rw [ly_encS hQl.1]
      refine br_t (nI_pos' (by omega)) (Exists.intro 7 (ly_cm_l ht.1 (by omega) hA.1.1 6 0 _ Q rfl z (Or.inr h6) (fun Q1 h1 => go Q1 h1.1 (fun q hq => (h1.2 q hq).trans ⟨fun z => ⟨fun _ => z.1, z.2⟩, fun z => ⟨z.1 (by omega), z.2⟩⟩))))
theorem ly_CS_uni {r Q Q' : Nat} {S : List (Nat × Int32)} (h : ly_CS r S 0 Q) (h' : ly_CS r S 0 Q') : Q' = Q := by
  rcases h with ⟨h1, _, h3⟩ | ⟨h1, h2, h3⟩
  · rcases h' with ⟨g1, _, _⟩ | ⟨_, g2, _⟩
    · omega
    · rcases g2 with z | ⟨t, ht, z⟩
      · exact absurd rfl z
      · exact absurd z (h3 t ht)
  · rcases h' with ⟨_, _, g3⟩ | ⟨g1, _, g3⟩
    · rcases h2 with z | ⟨t, ht, z⟩
      · exact absurd rfl z
      · exact absurd z (g3 t ht)
    · have a1 := ly_bg_le ((g3 Q h1).mpr ((h3 Q h1).mp (ly_bg_refl Q)))
      have a2 := ly_bg_le ((h3 Q' g1).mpr ((g3 Q' g1).mp (ly_bg_refl Q')))
      omega
theorem ly_CS_perm {r Q0 Q : Nat} {S T : List (Nat × Int32)} (hP : S.Perm T) (h : ly_CS r S Q0 Q) : ly_CS r T Q0 Q := by
  rcases h with ⟨h1, h2, h3⟩ | ⟨h1, h2, h3⟩
  · exact Or.inl ⟨h1, h2, fun p hp => h3 p (hP.mem_iff.mpr hp)⟩
  · refine Or.inr ⟨h1, ?_, fun q hq => (h3 q hq).trans ⟨fun z => ⟨z.1, fun p hp => z.2 p (hP.mem_iff.mpr hp)⟩, fun z => ⟨z.1, fun p hp => z.2 p (hP.mem_iff.mp hp)⟩⟩⟩
    rcases h2 with z | ⟨t, ht, z⟩
    · exact Or.inl z
    · exact Or.inr ⟨t, hP.mem_iff.mp ht, z⟩
theorem ly_CS_mem {r Q0 Q : Nat} {L R : List (Nat × Int32)} (hR : ∀ p, p ∈ R ↔ (p ∈ L ∧ ly_bg r p.1 = true)) (h : ly_CS r R Q0 Q) : ly_CS r L Q0 Q := by
  rcases h with ⟨h1, h2, h3⟩ | ⟨h1, h2, h3⟩
  · exact Or.inl ⟨h1, h2, fun p hp z => h3 p ((hR p).mpr ⟨hp, z⟩) z⟩
  · refine Or.inr ⟨h1, ?_, fun q hq => (h3 q hq).trans ⟨fun z => ⟨z.1, fun p hp hb => z.2 p ((hR p).mpr ⟨hp, hb⟩) hb⟩, fun z => ⟨z.1, fun p hp hb => z.2 p ((hR p).mp hp).1 hb⟩⟩⟩
    rcases h2 with z | ⟨t, ht, z⟩
    · exact Or.inl z
    · exact Or.inr ⟨t, ((hR t).mp ht).1, z⟩
theorem ly_ends {f l : Nat × Int32} {R : List (Nat × Int32)} {r Q : Nat} (hG : ly_Gd R) (hS : ly_Srt R) {R1 R2 : List (Nat × Int32)} (e1 : R = f :: R1) (e2 : R = R2 ++ [l]) (hb : ∀ p, p ∈ R → ly_bg r p.1 = true) (h : ly_Meet f.1 l.1 Q) : ly_CS r R 0 Q := by
  have hf : f ∈ R := by rw [e1]; exact List.mem_cons_self ..
  have hl : l ∈ R := by rw [e2]; exact List.mem_append_right _ (List.mem_cons_self ..)
  refine Or.inr ⟨h.1, Or.inr ⟨f, hf, hb f hf⟩, fun q hq => (h.2 q hq).trans ⟨fun z => ⟨fun y => absurd rfl y, fun p hp _ => ?_⟩, fun z => ⟨z.2 f hf (hb f hf), z.2 l hl (hb l hl)⟩⟩⟩
  have k1 := (ly_bg_K hq (hG f hf).1).mp z.1
  have k2 := (ly_bg_K hq (hG l hl).1).mp z.2
  refine (ly_bg_K hq (hG p hp).1).mpr ⟨?_, ?_⟩
  · have : ly_K f.1 ≤ ly_K p.1 := by
      have hS1 := hS
      rw [e1] at hp hS1
      rcases List.mem_cons.mp hp with rfl | hp
      · exact Nat.le_refl _
      · exact Nat.le_of_lt ((List.pairwise_cons.mp hS1).1 p hp)
    omega
  · have : ly_K p.1 ≤ ly_K l.1 := by
      have hS1 := hS
      rw [e2] at hp hS1
      rcases List.mem_append.mp hp with hp | hp
      · exact Nat.le_of_lt ((List.pairwise_append.mp hS1).2.2 p hp l (List.mem_cons_self ..))
      · rcases List.mem_cons.mp hp with rfl | hp
        · exact Nat.le_refl _
        · exact nomatch hp
    omega
theorem i_vc_common {k : Nat} {u : SX} {v : SY} (I : i_Rel k u v) (hk : k + 4 ≤ 2048) (v1 : Int32) : wpX_common (fun r => wpY_common (fun r' => r' = r ∧ i_Rel (k + 4) u v) v v1) u v1 := by
  obtain ⟨L, M, hL, hM, hP, hS⟩ := id I
  obtain ⟨h, a, b⟩ := u
  obtain ⟨c, a', b'⟩ := v
  unfold wpX_common wpY_common; dsimp only
  rcases ly_csR v1 with ⟨w, hw, rfl⟩ | hn
  · refine ly_isRow_y hw (br_f (by decide) (ly_place hL hw ?_))
    obtain ⟨A, R, B, e, hl, hA, hR, hB, hX⟩ := ly_range hL hS hw
    rw [← hl]
    refine hX _ ?_
    have hY : ∀ (Q : Nat) (P : Int32 → Prop), ly_CS w L 0 Q → P (ly_enc Q) → wpY_badRow (fun r_1 => (((r_1 = 0 → (∃ n15 : Nat, wY_common_15 P (nI w) c a' b' n15 (-2) 0)) ∧ (¬ r_1 = 0 → (P (-1)))))) (c, a', b') (nI w) := by
      intro Q P hQ hp
      refine ly_badRow_y hw (br_t rfl ?_)
      obtain ⟨a2, b2, e2, hAt, hG, hlen⟩ := id hM
      cases e2
      refine Exists.intro _ (ly_com_l hw hlen M 0 0 hG hAt (by omega) (Or.inl rfl) (fun Q' hQ' => ?_))
      rw [ly_CS_uni (ly_CS_perm hP hQ) hQ']; exact hp
    have hmem : ∀ p, p ∈ R ↔ (p ∈ L ∧ ly_bg w p.1 = true) := by
      intro p
      refine ⟨fun z => ⟨by rw [e]; exact List.mem_append_right _ (List.mem_append_left _ z), hR p z⟩, fun z => ?_⟩
      have z1 := z.1
      rw [e] at z1
      rcases List.mem_append.mp z1 with y | y
      · exact absurd z.2 (hA p y)
      · rcases List.mem_append.mp y with y | y
        · exact y
        · exact absurd z.2 (hB p y)
    have hlen := (ly_len hL).2
    have hl2 := hlen
    rw [e, List.length_append, List.length_append] at hl2
    rcases Nat.eq_zero_or_pos R.length with z | z
    · refine br_f (nI_nlt (by omega) (by omega)) (hY 0 _ (ly_CS_mem hmem ?_) ⟨rfl, I⟩)
      rw [List.length_eq_zero_iff.mp z]
      exact Or.inl ⟨rfl, rfl, fun _ y => (nomatch y)⟩
    · obtain ⟨R2, l, e2, hR2⟩ := ly_last (S := R) (j := R.length - 1) (by omega)
      have hRG : ly_Gd R := fun p hp => ly_gd hL p ((hmem p).mp hp).1
      have hRS : ly_Srt R := by
        rw [e] at hS
        exact (List.pairwise_append.mp (List.pairwise_append.mp hS).2.1).1
      cases R with
      | nil => exact absurd z (Nat.lt_irrefl _)
      | cons f R1 =>
        obtain ⟨a1, b1, e1, hAt, _, _⟩ := id hL
        cases e1
        have af : a A.length = nI f.1 := by
          rw [e] at hAt; exact (ly_At_mid hAt).1
        have al : a (A.length + R2.length) = nI l.1 := by
          rw [e, e2, List.append_assoc, ← List.append_assoc] at hAt
          have := (ly_At_mid hAt).1
          rw [List.length_append] at this; exact this
        have hlf : l ∈ f :: R1 := by rw [e2]; exact List.mem_append_right _ (List.mem_cons_self ..)
        have ee : nI (A.length + (f :: R1).length) - 1 = nI (A.length + R2.length) := by
          rw [show A.length + (f :: R1).length = A.length + R2.length + 1 from by omega]; exact nI_pred _
        refine br_t (nI_lt (by omega) (by omega)) ⟨vp_in_nI (by omega) (by omega), ?_⟩
        rw [ee, nI_clamp (by omega), nI_clamp (by omega), af, al]
        refine ⟨vp_in_nI (by omega) (by omega), ly_shared (hRG f (List.mem_cons_self ..)).1 (hRG l hlf).1 (fun Q hQ => hY Q _ (ly_CS_mem hmem (ly_ends hRG hRS rfl e2 hR hQ)) ⟨ly_encS (ly_rw_lt hQ.1).1, I⟩)⟩
  · exact ly_isRow_n hn (br_t rfl (ly_badRow_n hn (br_f (by decide) ⟨rfl, I⟩)))
end
