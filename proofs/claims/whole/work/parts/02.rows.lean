/-- w is a row of n letters -/
def ly_Rw (n w : Nat) : Prop := n ≤ 6 ∧ 8 ^ n ≤ w ∧ w < 2 * 8 ^ n
def ly_nl (w : Nat) : Nat := if w < 8 then 0 else if w < 64 then 1 else if w < 512 then 2 else if w < 4096 then 3 else if w < 32768 then 4 else if w < 262144 then 5 else 6
def ly_Row (w : Nat) : Prop := ly_Rw (ly_nl w) w
def ly_Word (w : Nat) : Prop := ly_Row w ∧ 1 ≤ ly_nl w
/-- the order's key, and the end of the keys that a row begins -/
def ly_K (w : Nat) : Nat := 7 * (w * 8 ^ (6 - ly_nl w)) + ly_nl w
def ly_E (w : Nat) : Nat := 7 * ((w + 1) * 8 ^ (6 - ly_nl w))
def ly_bg (r w : Nat) : Bool := (List.range 7).any (fun k => w / 8 ^ k == r)
theorem ly_c7 {n : Nat} (h : n ≤ 6) : n = 0 ∨ n = 1 ∨ n = 2 ∨ n = 3 ∨ n = 4 ∨ n = 5 ∨ n = 6 := by omega
theorem ly_nl_of {n w : Nat} (h : ly_Rw n w) : ly_nl w = n := by
  obtain ⟨hn, h1, h2⟩ := h
  unfold ly_nl
  rcases ly_c7 hn with rfl | rfl | rfl | rfl | rfl | rfl | rfl <;> simp only [Nat.reducePow] at h1 h2 <;> (repeat' split) <;> omega
theorem ly_row_of {n w : Nat} (h : ly_Rw n w) : ly_Row w := by unfold ly_Row; rw [ly_nl_of h]; exact h
theorem ly_rw_lt {n w : Nat} (h : ly_Rw n w) : 1 ≤ w ∧ w < 524288 := by
  obtain ⟨hn, h1, h2⟩ := h
  rcases ly_c7 hn with rfl | rfl | rfl | rfl | rfl | rfl | rfl <;> simp only [Nat.reducePow] at h1 h2 <;> omega
theorem ly_rw_uni {n m w : Nat} (h : ly_Rw n w) (h' : ly_Rw m w) : n = m := (ly_nl_of h).symm.trans (ly_nl_of h')
theorem ly_rw_div {n w : Nat} (h : ly_Rw (n + 1) w) : ly_Rw n (w / 8) := by
  obtain ⟨hn, h1, h2⟩ := h
  rw [Nat.pow_succ] at h1 h2
  exact ⟨by omega, by omega, by omega⟩
theorem ly_rw_divk {n w : Nat} (h : ly_Rw n w) : ∀ k, k ≤ n → ly_Rw (n - k) (w / 8 ^ k) := by
  intro k
  induction k with
  | zero => intro _; rw [Nat.pow_zero, Nat.div_one]; exact h
  | succ k ih =>
    intro hk
    have h2 := ih (by omega)
    rw [Nat.pow_succ, ← Nat.div_div_eq_div_mul]
    apply ly_rw_div
    rw [show n - (k + 1) + 1 = n - k from by omega]
    exact h2
theorem ly_bg_iff {r w : Nat} : ly_bg r w = true ↔ ∃ k, k < 7 ∧ w / 8 ^ k = r := by
  simp only [ly_bg, List.any_eq_true, List.mem_range, beq_iff_eq]
theorem ly_bg_le {r w : Nat} (h : ly_bg r w = true) : r ≤ w := by
  obtain ⟨k, _, e⟩ := ly_bg_iff.mp h
  rw [← e]; exact Nat.div_le_self _ _
theorem ly_bg_refl (w : Nat) : ly_bg w w = true := ly_bg_iff.mpr ⟨0, by omega, by rw [Nat.pow_zero, Nat.div_one]⟩
theorem ly_bg_let {n m r w : Nat} (hr : ly_Rw n r) (hw : ly_Rw m w) : ly_bg r w = true ↔ n ≤ m ∧ w / 8 ^ (m - n) = r := by
  rw [ly_bg_iff]
  constructor
  · rintro ⟨k, hk, e⟩
    have hkm : k ≤ m := by
      rcases Nat.lt_or_ge m k with h | h
      · exfalso
        have h1 : 8 ^ (m + 1) ≤ 8 ^ k := Nat.pow_le_pow_right (by omega) h
        rw [Nat.pow_succ] at h1
        have h2 := hw.2.2
        have h3 : 0 < 8 ^ m := Nat.pos_of_ne_zero (by intro z; simp at z)
        have h4 : w / 8 ^ k = 0 := Nat.div_eq_of_lt (by omega)
        have := (ly_rw_lt hr).1
        omega
      · exact h
    have h2 := ly_rw_divk hw k hkm
    rw [e] at h2
    have := ly_rw_uni hr h2
    refine ⟨by omega, ?_⟩
    rw [show m - n = k from by omega]; exact e
  · rintro ⟨h, e⟩
    have := hw.1
    exact ⟨m - n, by omega, e⟩
theorem ly_bg_trans {a b c : Nat} (ha : ly_Row a) (hb : ly_Row b) (hc : ly_Row c) (h : ly_bg a b = true) (h' : ly_bg b c = true) : ly_bg a c = true := by
  rw [ly_bg_let ha hb] at h
  rw [ly_bg_let hb hc] at h'
  rw [ly_bg_let ha hc]
  clear ha hb hc
  generalize ly_nl a = x at *
  generalize ly_nl b = y at *
  generalize ly_nl c = z at *
  refine ⟨by omega, ?_⟩
  rw [← h.2, ← h'.2, Nat.div_div_eq_div_mul, ← Nat.pow_add, show z - y + (y - x) = z - x from by omega]
theorem ly_bg_down {q w : Nat} (h : ly_bg q w = true) (hn : q ≠ w) : ly_bg q (w / 8) = true := by
  obtain ⟨k, hk, e⟩ := ly_bg_iff.mp h
  cases k with
  | zero => rw [Nat.pow_zero, Nat.div_one] at e; exact absurd e.symm hn
  | succ k =>
    refine ly_bg_iff.mpr ⟨k, by omega, ?_⟩
    rw [Nat.div_div_eq_div_mul, Nat.mul_comm, ← Nat.pow_succ]; exact e
theorem ly_bg_up {q w : Nat} (hq : 1 ≤ q) (hw : w < 524288) (h : ly_bg q (w / 8) = true) : ly_bg q w = true := by
  obtain ⟨k, hk, e⟩ := ly_bg_iff.mp h
  rw [Nat.div_div_eq_div_mul, Nat.mul_comm, ← Nat.pow_succ] at e
  refine ly_bg_iff.mpr ⟨k + 1, ?_, e⟩
  rcases Nat.lt_or_ge k 6 with h6 | h6
  · omega
  · exfalso
    obtain rfl : k = 6 := by omega
    have e2 : w / 8 ^ 7 = q := e
    have : w / 8 ^ 7 = 0 := Nat.div_eq_of_lt (by simp only [Nat.reducePow]; omega)
    omega
theorem ly_bg_1 {w : Nat} (hw : ly_Row w) : ly_bg 1 w = true := by
  have h1 : ly_Rw 0 1 := ⟨by omega, by decide, by decide⟩
  rw [ly_bg_let h1 hw]
  refine ⟨by omega, ?_⟩
  have h := ly_rw_divk hw (ly_nl w) (Nat.le_refl _)
  rw [Nat.sub_self] at h
  have h2 := h.2.1
  have h3 := h.2.2
  rw [Nat.sub_zero]
  simp only [Nat.reducePow] at h2 h3
  omega
theorem ly_bg_KK {n m r w : Nat} (hr : ly_Rw n r) (hw : ly_Rw m w) : (n ≤ m ∧ w / 8 ^ (m - n) = r) ↔ (7 * (r * 8 ^ (6 - n)) + n ≤ 7 * (w * 8 ^ (6 - m)) + m ∧ 7 * (w * 8 ^ (6 - m)) + m < 7 * ((r + 1) * 8 ^ (6 - n))) := by
  obtain ⟨hn, h1, h2⟩ := hr
  obtain ⟨hm, h3, h4⟩ := hw
  rcases ly_c7 hn with rfl | rfl | rfl | rfl | rfl | rfl | rfl <;> rcases ly_c7 hm with rfl | rfl | rfl | rfl | rfl | rfl | rfl <;> simp only [Nat.reduceSub, Nat.reducePow] at h1 h2 h3 h4 ⊢ <;> omega
theorem ly_bg_K {r w : Nat} (hr : ly_Row r) (hw : ly_Row w) : ly_bg r w = true ↔ ly_K r ≤ ly_K w ∧ ly_K w < ly_E r := (ly_bg_let hr hw).trans (ly_bg_KK hr hw)
theorem ly_K_E {r : Nat} (hr : ly_Row r) : ly_K r < ly_E r := ((ly_bg_K hr hr).mp (ly_bg_refl r)).2
theorem ly_K_inj {r w : Nat} (hr : ly_Row r) (hw : ly_Row w) (h : ly_K r = ly_K w) : r = w := by
  have h1 := ly_bg_le ((ly_bg_K hr hw).mpr ⟨Nat.le_of_eq h, by rw [← h]; exact ly_K_E hr⟩)
  have h2 := ly_bg_le ((ly_bg_K hw hr).mpr ⟨Nat.le_of_eq h.symm, by rw [h]; exact ly_K_E hw⟩)
  omega
theorem ly_rwK {n w : Nat} (h : ly_Rw n w) : 7 * (w * 8 ^ (6 - n)) + n < 4000000 := by
  obtain ⟨hn, h1, h2⟩ := h
  rcases ly_c7 hn with rfl | rfl | rfl | rfl | rfl | rfl | rfl <;> simp only [Nat.reduceSub, Nat.reducePow] at h1 h2 ⊢ <;> omega
theorem ly_K_lt {w : Nat} (h : ly_Row w) : ly_K w < 4000000 := ly_rwK h
