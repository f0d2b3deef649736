/-! an item of the text -/
theorem cl1 : (1 : Int32).toNatClampNeg = 1 := by decide
theorem cl2 : (2 : Int32).toNatClampNeg = 2 := by decide
theorem bd03 {α : Type} (m : Option α) : bd (0 : Int32) 3 m = m := bdn (k := 0) m (by omega) (by omega)
theorem bd13 {α : Type} (m : Option α) : bd (1 : Int32) 3 m = m := bdn (k := 1) m (by omega) (by omega)
theorem bd23 {α : Type} (m : Option α) : bd (2 : Int32) 3 m = m := bdn (k := 2) m (by omega) (by omega)
theorem bd12 {α : Type} (m : Option α) : bd (1 : Int32) 2 m = m := bdn (k := 1) m (by omega) (by omega)
def DR (E : HD) (h hl : Nat) (p rg ht : Int32) (bp sc kd lk : Nat → Int32) (li : Int32) (mn bs st yk yl yr : Nat → Int32) : Prop :=
  E.1 ≤ 6 ∧ E.2.1 ≤ 1 ∧ (∀ i, i < E.1 → E.2.2.1 i ≤ 5 ∧ E.2.2.2.1 i ≤ 20 ∧ E.2.2.2.2.1 i ≤ 4) ∧ (∀ i, i < 6 → ∀ j, j < 6 → E.2.2.2.2.2 i j ≤ 99) ∧ p = nI E.1 ∧ mn 1 = nI E.1 ∧ rg = nI E.2.1 ∧ yr 1 = nI E.2.1 ∧
  (∀ i, i < E.1 → (bp i = nI (E.2.2.1 i) ∧ bs (6 + i) = nI (E.2.2.1 i)) ∧ (sc i = nI (E.2.2.2.1 i) ∧ st (6 + i) = nI (E.2.2.2.1 i)) ∧ kd i = nI (E.2.2.2.2.1 i) ∧ yk (6 + i) = nI (E.2.2.2.2.1 i)) ∧
  (∀ i, i < 6 → ∀ j, j < 6 → lk (8 * i + j) = nI (E.2.2.2.2.2 i j) ∧ yl (36 + 6 * i + j) = nI (E.2.2.2.2.2 i j)) ∧
  ht = nI h ∧ li = nI hl ∧ h ≤ 5 ∧ hl ≤ h ∧ (∀ i, i < E.1 → E.2.2.1 i ≤ h) ∧ (h = hl ∨ ∃ i, i < E.1 ∧ E.2.2.1 i = h)
section IT
variable {L : Nat} {tx : Nat → Int32} {D : HD}
theorem E_numsW (hL : L ≤ 300) {n k : Nat} (hn1 : 1 ≤ n) (hn : n ≤ 3) (hk : k < L) (nu to : Nat → Int32) :
    (∃ nu' pl to', f_X7_readNumbers (nI k + 1) (nI n) (nI L) tx nu = some (-1, nu') ∧ f_X10_figures (nI n) (nI L) (nI k + 1) tx to = some (0, pl, to')) ∨
    (∃ k' nu' to', f_X7_readNumbers (nI k + 1) (nI n) (nI L) tx nu = some (nI k', nu') ∧ f_X10_figures (nI n) (nI L) (nI k + 1) tx to = some (1, nI k', to') ∧ k < k' ∧ k' ≤ L ∧ ∀ i, i < n → ∃ v, v ≤ 99 ∧ nu' i = nI v ∧ to' i = nI v) := by
  have h0 := NF_big
  rw [show nI k + (1 : Int32) = nI (k + 1) from nI_1 k]
  rcases E_nums (tx := tx) (k0 := k + 1) hL hn1 hn n 0 (k + 1) NF NF nu to (by omega) (by omega) (by omega) (by omega) (fun h => absurd h (by omega)) (by omega) (fun i hi => absurd hi (by omega)) with h | ⟨k', nu', to', e1, e2, h1, h2, h3⟩
  · exact Or.inl h
  · exact Or.inr ⟨k', nu', to', e1, e2, by omega, h2, h3⟩
theorem mx_eq {a b : Nat} (ha : a ≤ 1000) (hb : b ≤ 1000) : (if nI a < nI b then nI b else nI a) = nI (max a b) := by
  by_cases c : a < b
  · rw [if_pos (nI_lt c (by omega)), Nat.max_eq_right (by omega)]
  · rw [if_neg (nI_nlt (by omega) (by omega)), Nat.max_eq_left (by omega)]
theorem my_eq {a b : Nat} (ha : a ≤ 1000) (hb : b ≤ 1000) {α : Type} (F : Int32 → α) : (if nI b ≤ nI a then F (nI a) else F (nI b)) = F (nI (max a b)) := by
  by_cases c : a < b
  · rw [if_neg (nI_ge c (by omega)), Nat.max_eq_right (by omega)]
  · rw [if_pos (nI_le (by omega) (by omega)), Nat.max_eq_left (by omega)]
/-- both fail, or both go on -/
def IR (L : Nat) (D : HD) (k : Nat) (A : Option (Int32 × (Nat → Int32) × Int32 × Int32 × Int32 × (Nat → Int32) × (Nat → Int32) × (Nat → Int32) × (Nat → Int32))) (B : Option (Int32 × Int32 × Int32 × (Nat → Int32) × (Nat → Int32) × (Nat → Int32) × (Nat → Int32) × (Nat → Int32) × (Nat → Int32) × (Nat → Int32))) : Prop :=
  (∃ nu p rg ht bp sc kd lk li pl mn bs st yk yl yr to, A = some (-1, nu, p, rg, ht, bp, sc, kd, lk) ∧ B = some (0, li, pl, mn, bs, st, yk, yl, yr, to) ∧ HY D mn bs st yk yl yr) ∨
  (∃ k' E h hl nu p rg ht bp sc kd lk li mn bs st yk yl yr to, A = some (nI k', nu, p, rg, ht, bp, sc, kd, lk) ∧ B = some (1, li, nI k', mn, bs, st, yk, yl, yr, to) ∧ k < k' ∧ k' ≤ L ∧ DR E h hl p rg ht bp sc kd lk li mn bs st yk yl yr ∧ HY D mn bs st yk yl yr)
theorem E_item_p (hL : L ≤ 300) {k : Nat} (hk : k < L) {E : HD} {h hl : Nat} {p rg ht : Int32} {bp sc kd lk : Nat → Int32} {li : Int32} {mn bs st yk yl yr : Nat → Int32} (hD6 : D.1 ≤ 6) (hR : DR E h hl p rg ht bp sc kd lk li mn bs st yk yl yr) (hy : HY D mn bs st yk yl yr) (nu to : Nat → Int32) (hc : tx k = 112) : IR L D k (f_X7_readItem (nI k) (nI L) tx nu p rg ht bp sc kd lk) (f_X10_item (nI L) li (nI k) tx mn bs st yk yl yr to) := by
  obtain ⟨r1, r2, r3, r4, rfl, r6, rfl, r8, r9, r10, rfl, rfl, r13, r14, r15, r16⟩ := hR
  have eA : f_X7_readItem (nI k) (nI L) tx nu (nI E.1) (nI E.2.1) (nI h) bp sc kd lk = Option.bind (f_X7_readNumbers (nI k + 1) (nI 3) (nI L) tx nu) (fun u_5 => if u_5.1 < 0 then some ((-1 : Int32), u_5.2, nI E.1, nI E.2.1, nI h, bp, sc, kd, lk) else Option.bind (Option.bind (f_X2_addPerson (u_5.2 0) (u_5.2 1) (u_5.2 2) (nI E.1) (nI h) bp sc kd) (fun u_16 => zb u_16.1 (some (u_16.1, u_16.2.1, nI E.2.1, u_16.2.2.1, u_16.2.2.2.1, u_16.2.2.2.2.1, u_16.2.2.2.2.2, lk)))) (fun u_8 => if u_8.1 = 0 then some ((-1 : Int32), u_5.2, u_8.2.1, u_8.2.2.1, u_8.2.2.2.1, u_8.2.2.2.2.1, u_8.2.2.2.2.2.1, u_8.2.2.2.2.2.2.1, u_8.2.2.2.2.2.2.2) else some (u_5.1, u_5.2, u_8.2.1, u_8.2.2.1, u_8.2.2.2.1, u_8.2.2.2.2.1, u_8.2.2.2.2.2.1, u_8.2.2.2.2.2.2.1, u_8.2.2.2.2.2.2.2))) := by
    unfold f_X7_readItem f_X7_numbersOf f_X7_takeItem
    rw [bdn _ (show k < 300 by omega) (by omega), nI_cl (by omega), hc, if_pos rfl, Option.bind_some, if_neg (by decide)]
    simp only [bd03, bd13, bd23, c0, cl1, cl2, if_true]
    rfl
  rw [eA]
  unfold f_X10_item
  rw [E_byte hL (by omega), Option.bind_some, show bt L tx k = tx k from if_pos hk, hc, if_neg (by decide), if_pos rfl]
  simp only [bd03, bd13, bd23, bd12, c0, cl1, cl2, r6]
  rcases E_numsW (tx := tx) (n := 3) hL (by omega) (by omega) hk nu to with ⟨nu', pl, to', e1, e2⟩ | ⟨k', nu', to', e1, e2, a1, a2, a3⟩
  · left
    rw [e1, show f_X10_figures (3 : Int32) (nI L) (nI k + 1) tx to = _ from e2]
    exact ⟨_, _, _, _, _, _, _, _, _, _, _, _, _, _, _, _, _, rfl, rfl, hy⟩
  · obtain ⟨v0, w0, n0, t0⟩ := a3 0 (by omega)
    obtain ⟨v1, w1, n1, t1⟩ := a3 1 (by omega)
    obtain ⟨v2, w2, n2, t2⟩ := a3 2 (by omega)
    rw [e1, show f_X10_figures (3 : Int32) (nI L) (nI k + 1) tx to = _ from e2, Option.bind_some, Option.bind_some]
    show IR L D k (if nI k' < 0 then _ else Option.bind (Option.bind (f_X2_addPerson (nu' 0) (nu' 1) (nu' 2) (nI E.1) (nI h) bp sc kd) _) _) (if (1 : Int32) = 0 then _ else if nI E.1 = (6 : Int32) then _ else if (5 : Int32) < to' 0 then _ else if (20 : Int32) < to' 1 then _ else if to' 2 ≤ (4 : Int32) then bd ((6 : Int32) + nI E.1) 12 (bd ((6 : Int32) + nI E.1) 12 (bd ((6 : Int32) + nI E.1) 12 _)) else _)
    rw [if_neg (nI_lt0 (by omega)), if_neg (by decide), n0, n1, n2, t0, t1, t2]
    unfold f_X2_addPerson
    by_cases q1 : E.1 = 6
    · left
      rw [if_pos (show (6 : Int32) ≤ nI E.1 by rw [q1]; decide), if_pos (show nI E.1 = 6 by rw [q1]; rfl)]
      exact ⟨_, _, _, _, _, _, _, _, _, _, _, _, _, _, _, _, _, rfl, rfl, hy⟩
    rw [if_neg (show ¬ (6 : Int32) ≤ nI E.1 from nI_ge (b := 6) (by omega) (by omega)), if_neg (show ¬ nI E.1 = 6 from fun e => q1 ((nI_eq (b := 6) (by omega) (by omega)).mp e))]
    by_cases q2 : 6 ≤ v0
    · left
      rw [if_pos (show (6 : Int32) ≤ nI v0 from nI_le (a := 6) q2 (by omega)), if_pos (show (5 : Int32) < nI v0 from nI_lt (a := 5) (by omega) (by omega))]
      exact ⟨_, _, _, _, _, _, _, _, _, _, _, _, _, _, _, _, _, rfl, rfl, hy⟩
    rw [if_neg (show ¬ (6 : Int32) ≤ nI v0 from nI_ge (b := 6) (by omega) (by omega)), if_neg (show ¬ (5 : Int32) < nI v0 from nI_nlt (a := 5) (by omega) (by omega))]
    by_cases q3 : 20 < v1
    · left
      rw [if_pos (show (20 : Int32) < nI v1 from nI_lt (a := 20) q3 (by omega)), if_pos (show (20 : Int32) < nI v1 from nI_lt (a := 20) q3 (by omega))]
      exact ⟨_, _, _, _, _, _, _, _, _, _, _, _, _, _, _, _, _, rfl, rfl, hy⟩
    rw [if_neg (show ¬ (20 : Int32) < nI v1 from nI_nlt (a := 20) (by omega) (by omega)), if_neg (show ¬ (20 : Int32) < nI v1 from nI_nlt (a := 20) (by omega) (by omega))]
    by_cases q4 : v2 ≤ 4
    · right
      rw [if_pos (show nI v2 ≤ (4 : Int32) from nI_le (b := 4) q4 (by omega)), if_pos (show nI v2 ≤ (4 : Int32) from nI_le (b := 4) q4 (by omega)), show (6 : Int32) + nI E.1 = nI (6 + E.1) from nI_add 6 E.1, bdn _ (show 6 + E.1 < 12 by omega) (by omega), bdn _ (show 6 + E.1 < 12 by omega) (by omega), bdn _ (show 6 + E.1 < 12 by omega) (by omega), bdn _ (show E.1 < 8 by omega) (by omega), bdn _ (show E.1 < 8 by omega) (by omega), bdn _ (show E.1 < 8 by omega) (by omega), nI_cl (by omega), nI_cl (by omega), show nI E.1 + (1 : Int32) = nI (E.1 + 1) from nI_1 E.1, mx_eq (by omega) (by omega)]
      have hs : ∀ i, i < E.1 + 1 → i < E.1 ∨ i = E.1 := fun i hi => by omega
      refine ⟨k', (E.1 + 1, E.2.1, (fun i => if i = E.1 then v0 else E.2.2.1 i), (fun i => if i = E.1 then v1 else E.2.2.2.1 i), (fun i => if i = E.1 then v2 else E.2.2.2.2.1 i), E.2.2.2.2.2), max h v0, hl, nu', nI (E.1 + 1), nI E.2.1, nI (max h v0), _, _, _, lk, nI hl, _, _, _, _, yl, yr, to', rfl, rfl, a1, a2, ⟨show E.1 + 1 ≤ 6 by omega, r2, fun i hi => ?_, r4, rfl, pk_us, rfl, r8, fun i hi => ?_, r10, rfl, rfl, by omega, by omega, fun i hi => ?_, ?_⟩, ?_⟩
      · rcases hs i hi with c | rfl
        · have hne : i ≠ E.1 := by omega
          simp only [hne, if_false]; exact r3 i c
        · simp only [if_true]; omega
      · rcases hs i hi with c | rfl
        · have hne : i ≠ E.1 := by omega
          simp only [hne, if_false]
          rw [pk_un hne, pk_un hne, pk_un hne, pk_un (show 6 + i ≠ 6 + E.1 by omega), pk_un (show 6 + i ≠ 6 + E.1 by omega), pk_un (show 6 + i ≠ 6 + E.1 by omega)]
          exact r9 i c
        · simp only [if_true]
          exact ⟨⟨pk_us, pk_us.trans t0⟩, ⟨pk_us, pk_us.trans t1⟩, pk_us, pk_us.trans t2⟩
      · rcases hs i hi with c | rfl
        · have hne : i ≠ E.1 := by omega
          simp only [hne, if_false]
          have := r15 i c
          omega
        · simp only [if_true]; omega
      · by_cases c : h < v0
        · refine Or.inr ⟨E.1, Nat.lt_succ_self _, ?_⟩
          simp only [if_true]; omega
        · rcases r16 with e | ⟨i, i1, i2⟩
          · left; omega
          · refine Or.inr ⟨i, show i < E.1 + 1 by omega, ?_⟩
            have hne : i ≠ E.1 := by omega
            simp only [hne, if_false]; omega
      · refine ⟨by rw [pk_un (by omega)]; exact hy.1, hy.2.1, fun i hi => by rw [pk_un (by omega)]; exact hy.2.2.1 i hi, fun i hi => by rw [pk_un (by omega)]; exact hy.2.2.2.1 i hi, fun i hi => by rw [pk_un (by omega)]; exact hy.2.2.2.2.1 i hi, hy.2.2.2.2.2⟩
    · left
      rw [if_neg (show ¬ nI v2 ≤ (4 : Int32) from nI_ge (a := 4) (by omega) (by omega)), if_neg (show ¬ nI v2 ≤ (4 : Int32) from nI_ge (a := 4) (by omega) (by omega))]
      exact ⟨_, _, _, _, _, _, _, _, _, _, _, _, _, _, _, _, _, rfl, rfl, hy⟩
end IT
