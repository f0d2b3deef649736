/-! numbers: Int32 as integers -/
def iI (z : Int) : Int32 := Int32.ofInt z
theorem nI_iI (k : Nat) : nI k = iI (k : Int) := by
  unfold nI iI
  exact Int32.toBitVec_inj.mp (by simp)
theorem iI_add (a b : Int) : iI a + iI b = iI (a + b) := (Int32.ofInt_add a b).symm
theorem iI_mul (a b : Int) : iI a * iI b = iI (a * b) := (Int32.ofInt_mul a b).symm
theorem iI_neg (a : Int) : - iI a = iI (-a) := (Int32.ofInt_neg a).symm
theorem iI_sub (a b : Int) : iI a - iI b = iI (a - b) := by
  rw [Int32.sub_eq_add_neg, iI_neg, iI_add]; rfl
theorem iI_toInt {a : Int} (h1 : -1073741824 ≤ a) (h2 : a ≤ 1073741824) : (iI a).toInt = a := by
  unfold iI
  exact Int32.toInt_ofInt_of_le (by simp [Int32.minValue] <;> omega) (by omega)
theorem iI_lt {a b : Int} (h1 : -1073741824 ≤ a) (h2 : a ≤ 1073741824) (h3 : -1073741824 ≤ b) (h4 : b ≤ 1073741824) : iI a < iI b ↔ a < b := by
  rw [Int32.lt_iff_toInt_lt, iI_toInt h1 h2, iI_toInt h3 h4]
theorem iI_le {a b : Int} (h1 : -1073741824 ≤ a) (h2 : a ≤ 1073741824) (h3 : -1073741824 ≤ b) (h4 : b ≤ 1073741824) : iI a ≤ iI b ↔ a ≤ b := by
  rw [Int32.le_iff_toInt_le, iI_toInt h1 h2, iI_toInt h3 h4]
theorem iI_eq {a b : Int} (h1 : -1073741824 ≤ a) (h2 : a ≤ 1073741824) (h3 : -1073741824 ≤ b) (h4 : b ≤ 1073741824) : iI a = iI b ↔ a = b := by
  rw [← Int32.toInt_inj, iI_toInt h1 h2, iI_toInt h3 h4]
theorem lit_iI (k : Nat) : (OfNat.ofNat k : Int32) = iI (k : Int) := nI_iI k
theorem nI_le0 {p : Nat} (h : p < 2147483648) : nI p ≤ 0 ↔ p = 0 := by
  have := nI_leI (a := p) (b := 0) h (by decide)
  rw [show (0 : Int32) = nI 0 from rfl, this]; omega
theorem nI_eq0 {p : Nat} (h : p < 2147483648) : nI p = 0 ↔ p = 0 := by
  rw [show (0 : Int32) = nI 0 from rfl, nI_eq h (by decide)]
theorem nI_eq1 {p : Nat} (h : p < 2147483648) : nI p = 1 ↔ p = 1 := by
  rw [show (1 : Int32) = nI 1 from rfl, nI_eq h (by decide)]
theorem nI_lt0 {p : Nat} (h : p < 2147483648) : ¬ nI p < 0 := nI_pos (by omega)
theorem nI_ge0 {p : Nat} (h : p < 2147483648) : 0 ≤ nI p := nI_pos' (by omega)
theorem nI_s1 {p : Nat} (h : 1 ≤ p) : nI p - 1 = nI (p - 1) := pk_sub (b := 1) h
theorem c0 : (0 : Int32).toNatClampNeg = 0 := by decide
theorem bd0 {α : Type} (a : Option α) : bd (0 : Int32) 2 a = a := bd_ok a (vp_in_nI (n := 0) (by omega) (by omega))
theorem zI : (0 : Int32) = iI 0 := by decide
theorem bdn {α : Type} {k n : Nat} (a : Option α) (h : k < n) (hn : n ≤ 100000) : bd (nI k) n a = a := bd_ok a (vp_in_nI h (by omega))
theorem nI_cl {k : Nat} (h : k < 100000) : (nI k).toNatClampNeg = k := nI_clamp (by omega)
theorem nI_ma (c i j : Nat) : nI c * nI i + nI j = nI (c * i + j) := by rw [pk_mul, nI_add]
/-- a number in a range of a few -/
theorem nI_range (x : Int32) {n : Nat} (hn : n < 2147483648) : (x < 0) ∨ (¬ x < 0 ∧ nI n ≤ x) ∨ ∃ j, j < n ∧ x = nI j := by
  rcases pk_ix x (n := n) (by omega) with h | h | h
  · exact Or.inl h
  · by_cases h0 : x < 0
    · exact Or.inl h0
    · exact Or.inr (Or.inl ⟨h0, h⟩)
  · exact Or.inr (Or.inr h)
theorem in_eq (x : Int32) {k : Nat} (hk : k < 2147483648) : f_X10_in (x.toInt64) (0 : Int64) (nI k).toInt64 = some (if x < 0 then 0 else if nI k < x then 0 else 1) := by
  unfold f_X10_in
  have h1 : (lg_cmp x.toInt64 0 < 0) ↔ x < 0 := by
    rw [← Int32.not_le, lg_cmp_ge, show (0 : Int64) = (0 : Int32).toInt64 from rfl, Int64.le_iff_toInt_le, Int32.toInt_toInt64, Int32.toInt_toInt64, ← Int32.le_iff_toInt_le, Int32.not_le]
  have h2 : (0 < lg_cmp x.toInt64 (nI k).toInt64) ↔ nI k < x := by
    rw [lg_cmp_gt, Int64.lt_iff_toInt_lt, Int32.toInt_toInt64, Int32.toInt_toInt64, ← Int32.lt_iff_toInt_lt]
  simp only [h1, h2]
  split
  · rfl
  · split <;> rfl
