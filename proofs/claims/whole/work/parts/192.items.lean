/-! the other items -/
section IU
variable {L : Nat} {tx : Nat → Int32} {D : HD}
theorem E_item_l (hL : L ≤ 300) {k : Nat} (hk : k < L) {E : HD} {h hl : Nat} {p rg ht : Int32} {bp sc kd lk : Nat → Int32} {li : Int32} {mn bs st yk yl yr : Nat → Int32} (hD6 : D.1 ≤ 6) (hR : DR E h hl p rg ht bp sc kd lk li mn bs st yk yl yr) (hy : HY D mn bs st yk yl yr) (nu to : Nat → Int32) (hc : tx k = 108) : IR L D k (f_X7_readItem (nI k) (nI L) tx nu p rg ht bp sc kd lk) (f_X10_item (nI L) li (nI k) tx mn bs st yk yl yr to) := by
  obtain ⟨r1, r2, r3, r4, rfl, r6, rfl, r8, r9, r10, rfl, rfl, r13, r14, r15, r16⟩ := hR
  have eA : f_X7_readItem (nI k) (nI L) tx nu (nI E.1) (nI E.2.1) (nI h) bp sc kd lk = Option.bind (f_X7_readNumbers (nI k + 1) (nI 3) (nI L) tx nu) (fun u_5 => if u_5.1 < 0 then some ((-1 : Int32), u_5.2, nI E.1, nI E.2.1, nI h, bp, sc, kd, lk) else Option.bind (Option.bind (f_X2_setLiking (u_5.2 0) (u_5.2 1) (u_5.2 2) (nI h) lk) (fun u_10 => zb u_10.1 (some (u_10.1, nI E.1, nI E.2.1, u_10.2.1, bp, sc, kd, u_10.2.2)))) (fun u_8 => if u_8.1 = 0 then some ((-1 : Int32), u_5.2, u_8.2.1, u_8.2.2.1, u_8.2.2.2.1, u_8.2.2.2.2.1, u_8.2.2.2.2.2.1, u_8.2.2.2.2.2.2.1, u_8.2.2.2.2.2.2.2) else some (u_5.1, u_5.2, u_8.2.1, u_8.2.2.1, u_8.2.2.2.1, u_8.2.2.2.2.1, u_8.2.2.2.2.2.1, u_8.2.2.2.2.2.2.1, u_8.2.2.2.2.2.2.2))) := by
    unfold f_X7_readItem f_X7_numbersOf f_X7_takeItem
    rw [bdn _ (show k < 300 by omega) (by omega), nI_cl (by omega), hc, if_neg (by decide), if_pos rfl, Option.bind_some, if_neg (by decide)]
    simp only [bd03, bd13, bd23, c0, cl1, cl2, if_true, show ¬ (108 : Int32) = 112 by decide, if_false]
    rfl
  rw [eA]
  unfold f_X10_item f_X10_item_b282 f_X10_item_b312
  rw [E_byte hL (by omega), Option.bind_some, show bt L tx k = tx k from if_pos hk, hc, if_pos rfl]
  simp only [bd03, bd13, bd23, bd12, c0, cl1, cl2]
  rcases E_numsW (tx := tx) (n := 3) hL (by omega) (by omega) hk nu to with ⟨nu', pl, to', e1, e2⟩ | ⟨k', nu', to', e1, e2, a1, a2, a3⟩
  · left
    rw [e1, show f_X10_figures (3 : Int32) (nI L) (nI k + 1) tx to = _ from e2]
    exact ⟨_, _, _, _, _, _, _, _, _, _, _, _, _, _, _, _, _, rfl, rfl, hy⟩
  · obtain ⟨v0, w0, n0, t0⟩ := a3 0 (by omega)
    obtain ⟨v1, w1, n1, t1⟩ := a3 1 (by omega)
    obtain ⟨v2, w2, n2, t2⟩ := a3 2 (by omega)
    rw [e1, show f_X10_figures (3 : Int32) (nI L) (nI k + 1) tx to = _ from e2, Option.bind_some, Option.bind_some]
    show IR L D k (if nI k' < 0 then _ else Option.bind (Option.bind (f_X2_setLiking (nu' 0) (nu' 1) (nu' 2) (nI h) lk) _) _) (if (1 : Int32) = 0 then _ else if (5 : Int32) < to' 0 then _ else if (5 : Int32) < to' 1 then _ else if to' 0 = to' 1 then _ else bd ((36 : Int32) + (6 : Int32) * to' 0 + to' 1) 72 (if to' 0 ≤ nI hl then if to' 1 ≤ nI hl then some (1, nI hl, nI k', mn, bs, st, yk, upd yl ((36 : Int32) + (6 : Int32) * to' 0 + to' 1).toNatClampNeg (to' 2), yr, to') else some (1, to' 1, nI k', mn, bs, st, yk, upd yl ((36 : Int32) + (6 : Int32) * to' 0 + to' 1).toNatClampNeg (to' 2), yr, to') else if to' 1 ≤ to' 0 then some (1, to' 0, nI k', mn, bs, st, yk, upd yl ((36 : Int32) + (6 : Int32) * to' 0 + to' 1).toNatClampNeg (to' 2), yr, to') else some (1, to' 1, nI k', mn, bs, st, yk, upd yl ((36 : Int32) + (6 : Int32) * to' 0 + to' 1).toNatClampNeg (to' 2), yr, to')))
    rw [if_neg (nI_lt0 (by omega)), if_neg (by decide), n0, n1, n2, t0, t1, t2]
    unfold f_X2_setLiking
    by_cases q1 : 6 ≤ v0
    · left
      rw [if_pos (show (6 : Int32) ≤ nI v0 from nI_le (a := 6) q1 (by omega)), if_pos (show (5 : Int32) < nI v0 from nI_lt (a := 5) (by omega) (by omega))]
      exact ⟨_, _, _, _, _, _, _, _, _, _, _, _, _, _, _, _, _, rfl, rfl, hy⟩
    rw [if_neg (show ¬ (6 : Int32) ≤ nI v0 from nI_ge (b := 6) (by omega) (by omega)), if_neg (show ¬ (5 : Int32) < nI v0 from nI_nlt (a := 5) (by omega) (by omega))]
    by_cases q2 : 6 ≤ v1
    · left
      rw [if_pos (show (6 : Int32) ≤ nI v1 from nI_le (a := 6) q2 (by omega)), if_pos (show (5 : Int32) < nI v1 from nI_lt (a := 5) (by omega) (by omega))]
      exact ⟨_, _, _, _, _, _, _, _, _, _, _, _, _, _, _, _, _, rfl, rfl, hy⟩
    rw [if_neg (show ¬ (6 : Int32) ≤ nI v1 from nI_ge (b := 6) (by omega) (by omega)), if_neg (show ¬ (5 : Int32) < nI v1 from nI_nlt (a := 5) (by omega) (by omega))]
    by_cases q3 : v0 = v1
    · left
      rw [if_pos (show nI v0 = nI v1 by rw [q3]), if_pos (show nI v0 = nI v1 by rw [q3])]
      exact ⟨_, _, _, _, _, _, _, _, _, _, _, _, _, _, _, _, _, rfl, rfl, hy⟩
    have q3' : ¬ nI v0 = nI v1 := fun e => q3 ((nI_eq (by omega) (by omega)).mp e)
    rw [if_neg q3', if_neg q3']
    right
    rw [show (8 : Int32) * nI v0 + nI v1 = nI (8 * v0 + v1) from nI_ma 8 v0 v1, bdn _ (show 8 * v0 + v1 < 64 by omega) (by omega), nI_cl (by omega), show (36 : Int32) + (6 : Int32) * nI v0 = nI (36 + 6 * v0) from by rw [show (6 : Int32) * nI v0 = nI (6 * v0) from pk_mul 6 v0]; exact nI_add 36 (6 * v0), nI_add, bdn _ (show 36 + 6 * v0 + v1 < 72 by omega) (by omega), nI_cl (by omega), mx_eq (by omega) (by omega), mx_eq (by omega) (by omega)]
    have eli : (if nI v0 ≤ nI hl then if nI v1 ≤ nI hl then some ((1 : Int32), nI hl, nI k', mn, bs, st, yk, upd yl (36 + 6 * v0 + v1) (nI v2), yr, to') else some (1, nI v1, nI k', mn, bs, st, yk, upd yl (36 + 6 * v0 + v1) (nI v2), yr, to') else if nI v1 ≤ nI v0 then some (1, nI v0, nI k', mn, bs, st, yk, upd yl (36 + 6 * v0 + v1) (nI v2), yr, to') else some (1, nI v1, nI k', mn, bs, st, yk, upd yl (36 + 6 * v0 + v1) (nI v2), yr, to')) = some ((1 : Int32), nI (max (max hl v0) v1), nI k', mn, bs, st, yk, upd yl (36 + 6 * v0 + v1) (nI v2), yr, to') := by
      have g : ∀ a, a ≤ 1000 → (if nI v1 ≤ nI a then some ((1 : Int32), nI a, nI k', mn, bs, st, yk, upd yl (36 + 6 * v0 + v1) (nI v2), yr, to') else some (1, nI v1, nI k', mn, bs, st, yk, upd yl (36 + 6 * v0 + v1) (nI v2), yr, to')) = some ((1 : Int32), nI (max a v1), nI k', mn, bs, st, yk, upd yl (36 + 6 * v0 + v1) (nI v2), yr, to') := fun a ha => my_eq ha (by omega) (fun x => some ((1 : Int32), x, nI k', mn, bs, st, yk, upd yl (36 + 6 * v0 + v1) (nI v2), yr, to'))
      rw [g hl (by omega), g v0 (by omega)]
      by_cases c : v0 ≤ hl
      · rw [if_pos (nI_le c (by omega)), Nat.max_eq_left c]
      · rw [if_neg (nI_ge (by omega) (by omega)), Nat.max_eq_right (show hl ≤ v0 by omega)]
    refine ⟨k', (E.1, E.2.1, E.2.2.1, E.2.2.2.1, E.2.2.2.2.1, (fun i j => if i = v0 ∧ j = v1 then v2 else E.2.2.2.2.2 i j)), max h (max v0 v1), max (max hl v0) v1, nu', nI E.1, nI E.2.1, nI (max h (max v0 v1)), bp, sc, kd, upd lk (8 * v0 + v1) (nI v2), nI (max (max hl v0) v1), mn, bs, st, yk, upd yl (36 + 6 * v0 + v1) (nI v2), yr, to', rfl, eli, a1, a2, ⟨r1, r2, r3, fun i hi j hj => ?_, rfl, r6, rfl, r8, r9, fun i hi j hj => ?_, rfl, rfl, by omega, by omega, fun i hi => ?_, ?_⟩, ?_⟩
    · show (if i = v0 ∧ j = v1 then v2 else E.2.2.2.2.2 i j) ≤ 99
      split
      · omega
      · exact r4 i hi j hj
    · show upd lk (8 * v0 + v1) (nI v2) (8 * i + j) = nI (if i = v0 ∧ j = v1 then v2 else E.2.2.2.2.2 i j) ∧ upd yl (36 + 6 * v0 + v1) (nI v2) (36 + 6 * i + j) = nI (if i = v0 ∧ j = v1 then v2 else E.2.2.2.2.2 i j)
      by_cases c : i = v0 ∧ j = v1
      · rw [if_pos c, c.1, c.2]
        exact ⟨pk_us, pk_us⟩
      · rw [if_neg c, pk_un (by omega), pk_un (by omega)]
        exact r10 i hi j hj
    · have := r15 i hi
      show E.2.2.1 i ≤ _
      omega
    · rcases r16 with e | ⟨i, i1, i2⟩
      · left; omega
      · by_cases c : max v0 v1 ≤ h
        · exact Or.inr ⟨i, i1, show E.2.2.1 i = _ by omega⟩
        · left; omega
    · exact ⟨hy.1, hy.2.1, hy.2.2.1, hy.2.2.2.1, hy.2.2.2.2.1, fun i hi j hj => by rw [pk_un (by omega)]; exact hy.2.2.2.2.2 i hi j hj⟩
theorem E_item_r (hL : L ≤ 300) {k : Nat} (hk : k < L) {E : HD} {h hl : Nat} {p rg ht : Int32} {bp sc kd lk : Nat → Int32} {li : Int32} {mn bs st yk yl yr : Nat → Int32} (hD6 : D.1 ≤ 6) (hR : DR E h hl p rg ht bp sc kd lk li mn bs st yk yl yr) (hy : HY D mn bs st yk yl yr) (nu to : Nat → Int32) (hc : tx k = 114) : IR L D k (f_X7_readItem (nI k) (nI L) tx nu p rg ht bp sc kd lk) (f_X10_item (nI L) li (nI k) tx mn bs st yk yl yr to) := by
  obtain ⟨r1, r2, r3, r4, rfl, r6, rfl, r8, r9, r10, rfl, rfl, r13, r14, r15, r16⟩ := hR
  have eA : f_X7_readItem (nI k) (nI L) tx nu (nI E.1) (nI E.2.1) (nI h) bp sc kd lk = Option.bind (f_X7_readNumbers (nI k + 1) (nI 1) (nI L) tx nu) (fun u_5 => if u_5.1 < 0 then some ((-1 : Int32), u_5.2, nI E.1, nI E.2.1, nI h, bp, sc, kd, lk) else Option.bind (Option.bind (f_X2_setRing (u_5.2 0) (nI E.2.1)) (fun u_4 => zb u_4.1 (some (u_4.1, nI E.1, u_4.2, nI h, bp, sc, kd, lk)))) (fun u_8 => if u_8.1 = 0 then some ((-1 : Int32), u_5.2, u_8.2.1, u_8.2.2.1, u_8.2.2.2.1, u_8.2.2.2.2.1, u_8.2.2.2.2.2.1, u_8.2.2.2.2.2.2.1, u_8.2.2.2.2.2.2.2) else some (u_5.1, u_5.2, u_8.2.1, u_8.2.2.1, u_8.2.2.2.1, u_8.2.2.2.2.1, u_8.2.2.2.2.2.1, u_8.2.2.2.2.2.2.1, u_8.2.2.2.2.2.2.2))) := by
    unfold f_X7_readItem f_X7_numbersOf f_X7_takeItem
    rw [bdn _ (show k < 300 by omega) (by omega), nI_cl (by omega), hc, if_neg (by decide), if_neg (by decide), if_pos rfl, Option.bind_some, if_neg (by decide)]
    simp only [bd03, bd13, bd23, c0, cl1, cl2, if_true, show ¬ (114 : Int32) = 112 by decide, show ¬ (114 : Int32) = 108 by decide, if_false]
    rfl
  rw [eA]
  unfold f_X10_item
  rw [E_byte hL (by omega), Option.bind_some, show bt L tx k = tx k from if_pos hk, hc, if_neg (by decide), if_neg (by decide), if_pos rfl]
  simp only [bd03, bd13, bd23, bd12, c0, cl1, cl2]
  rcases E_numsW (tx := tx) (n := 1) hL (by omega) (by omega) hk nu to with ⟨nu', pl, to', e1, e2⟩ | ⟨k', nu', to', e1, e2, a1, a2, a3⟩
  · left
    rw [e1, show f_X10_figures (1 : Int32) (nI L) (nI k + 1) tx to = _ from e2]
    exact ⟨_, _, _, _, _, _, _, _, _, _, _, _, _, _, _, _, _, rfl, rfl, hy⟩
  · obtain ⟨v0, w0, n0, t0⟩ := a3 0 (by omega)
    rw [e1, show f_X10_figures (1 : Int32) (nI L) (nI k + 1) tx to = _ from e2, Option.bind_some, Option.bind_some]
    show IR L D k (if nI k' < 0 then _ else Option.bind (Option.bind (f_X2_setRing (nu' 0) (nI E.2.1)) _) _) (if (1 : Int32) = 0 then _ else if to' 0 ≤ (1 : Int32) then some (1, nI hl, nI k', mn, bs, st, yk, yl, upd yr 1 (to' 0), to') else _)
    rw [if_neg (nI_lt0 (by omega)), if_neg (by decide), n0, t0]
    unfold f_X2_setRing f_X2_setRing_b18
    by_cases q1 : v0 ≤ 1
    · right
      rw [if_pos (show nI v0 ≤ (1 : Int32) from nI_le (b := 1) q1 (by omega)), if_pos (show nI v0 ≤ (1 : Int32) from nI_le (b := 1) q1 (by omega))]
      have ez : (if nI v0 = (1 : Int32) then zb (1 : Int32) (some ((1 : Int32), (1 : Int32))) else zb (0 : Int32) (some ((1 : Int32), (0 : Int32)))) = some (1, nI v0) := by
        rcases (show v0 = 0 ∨ v0 = 1 by omega) with rfl | rfl <;> rfl
      rw [ez]
      exact ⟨k', (E.1, v0, E.2.2.1, E.2.2.2.1, E.2.2.2.2.1, E.2.2.2.2.2), h, hl, nu', nI E.1, nI v0, nI h, bp, sc, kd, lk, nI hl, mn, bs, st, yk, yl, upd yr 1 (nI v0), to', rfl, rfl, a1, a2, ⟨r1, q1, r3, r4, rfl, r6, rfl, pk_us, r9, r10, rfl, rfl, r13, r14, r15, r16⟩, ⟨hy.1, by rw [pk_un (by omega)]; exact hy.2.1, hy.2.2.1, hy.2.2.2.1, hy.2.2.2.2.1, hy.2.2.2.2.2⟩⟩
    · left
      rw [if_neg (show ¬ nI v0 ≤ (1 : Int32) from nI_ge (a := 1) (by omega) (by omega)), if_neg (show ¬ nI v0 ≤ (1 : Int32) from nI_ge (a := 1) (by omega) (by omega))]
      exact ⟨_, _, _, _, _, _, _, _, _, _, _, _, _, _, _, _, _, rfl, rfl, hy⟩
theorem E_item (hL : L ≤ 300) {k : Nat} (hk : k < L) {E : HD} {h hl : Nat} {p rg ht : Int32} {bp sc kd lk : Nat → Int32} {li : Int32} {mn bs st yk yl yr : Nat → Int32} (hD6 : D.1 ≤ 6) (hR : DR E h hl p rg ht bp sc kd lk li mn bs st yk yl yr) (hy : HY D mn bs st yk yl yr) (nu to : Nat → Int32) : IR L D k (f_X7_readItem (nI k) (nI L) tx nu p rg ht bp sc kd lk) (f_X10_item (nI L) li (nI k) tx mn bs st yk yl yr to) := by
  by_cases c1 : tx k = 112
  · exact E_item_p hL hk hD6 hR hy nu to c1
  by_cases c2 : tx k = 108
  · exact E_item_l hL hk hD6 hR hy nu to c2
  by_cases c3 : tx k = 114
  · exact E_item_r hL hk hD6 hR hy nu to c3
  left
  unfold f_X7_readItem f_X7_numbersOf f_X10_item
  rw [bdn _ (show k < 300 by omega) (by omega), nI_cl (by omega), if_neg c1, if_neg c2, if_neg c3, Option.bind_some, if_pos rfl, E_byte hL (by omega), Option.bind_some, show bt L tx k = tx k from if_pos hk, if_neg c2, if_neg c1, if_neg c3]
  exact ⟨_, _, _, _, _, _, _, _, _, _, _, _, _, _, _, _, _, rfl, rfl, hy⟩
end IU
