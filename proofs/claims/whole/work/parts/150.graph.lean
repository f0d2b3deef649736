/-! the graph of the class -/
theorem eb : ∀ c, c < 720 → (nI c <<< ((2 : Int32) &&& 31)) = nI (4 * c) ∧ (nI (4 * c) ||| (1 : Int32)) = nI (4 * c + 1) ∧ (nI (4 * c) ||| (2 : Int32)) = nI (4 * c + 2) ∧ (nI (4 * c + 1) ||| (2 : Int32)) = nI (4 * c + 1 + 2) := by decide +kernel
theorem ea : ∀ c, c < 720 → ∀ i, i < 4 → (nI (4 * c + i) &&& (3 : Int32)) = nI i ∧ (nI (4 * c + i) >>> ((2 : Int32) &&& 31)) = nI c := by decide +kernel
theorem nI_ma' (i c j : Nat) : nI i * nI c + nI j = nI (i * c + j) := by rw [pk_mul, nI_add]
/-- as if one were meek -/
def suitM (D : HD) (mk s x : Nat) : Bool := (lefB D s x || decide (dg D.1 s x = mk)) && (rigB D s x || decide (dg D.1 s (aft D.1 x) = mk))
def ldM (D : HD) (mk s x : Nat) : Int32 := if suitM D mk s x then nI (chg D.1 s x) else -1
def mkI (n mk : Nat) : Int32 := if mk < n then nI mk else -1
theorem suitB_lr (D : HD) (s x : Nat) : suitB D s x = (lefB D s x && rigB D s x) := rfl
theorem suitM_no {D : HD} {mk s x : Nat} (hs : s < NN D.1) (h6 : D.1 ≤ 6) (hx : x < D.1) (hm : D.1 ≤ mk) : suitM D mk s x = suitB D s x := by
  have h1 := tb_dg D.1 s hs x hx
  have h2 := tb_dg D.1 s hs _ (aft_lt D.1 (by omega) x hx)
  unfold suitM
  rw [decide_eq_false (by omega), decide_eq_false (by omega), Bool.or_false, Bool.or_false, suitB_lr]
section GR
variable {D : HD} {bp sc kd lk : Nat → Int32}
theorem E_leads (ok : HOK D) {g : ZX1} (hG : GOK D g) {s x mk : Nat} (hs : s < NN D.1) (hx : x < kk D.1 D.2.1) : f_X1_leadsTo (nI s) (nI x) (mkI D.1 mk) g.2.2.1 g.2.2.2.1 g.2.2.2.2.1 g.1 g.2.1 = some (ldM D mk s x) := by
  obtain ⟨g1, g2, g3, g4, g5, -, -⟩ := hG
  have h2 := ok.1
  have h6 := ok.2.1
  have hN := NN_le D.1
  have hkk := (kk_bd (rg := D.2.1) h2 h6).2
  have hxn : x < D.1 := by omega
  have hy := aft_lt D.1 (by omega) x hxn
  have hc := tb_chg D.1 s hs x hxn
  have d1 := tb_dg D.1 s hs x hxn
  have d2 := tb_dg D.1 s hs _ hy
  have sz : ¬ nI (NN D.1) ≤ nI (chg D.1 s x) := nI_ge hc (by omega)
  have mkn : ∀ i, i < D.1 → (nI i = mkI D.1 mk ↔ i = mk) := by
    intro i hi
    unfold mkI
    by_cases h : mk < D.1
    · rw [if_pos h, nI_eq (by omega) (by omega)]
    · rw [if_neg h]
      constructor
      · intro q; exact absurd (show nI i < 0 by rw [q]; decide) (nI_lt0 (by omega))
      · intro q; omega
  unfold f_X1_leadsTo
  rw [g1, g2, g3, if_neg (nI_lt0 (by omega)), if_neg (nI_ge hs (by omega)), if_neg (nI_lt0 (by omega)), if_pos (nI_lt hx (by omega)), show nI s * (6 : Int32) + nI x = nI (s * 6 + x) from nI_ma' s 6 x, bdn _ (by omega) (by omega), nI_cl (by omega), g5 s hs x hx]
  have b124 : ∀ (i : Nat) (x5 : Int32), i < 4 → f_X1_leadsTo_b124 (nI D.1) (nI (NN D.1)) (nI (kk D.1 D.2.1)) g.1 g.2.1 (nI (4 * chg D.1 s x + i)) x5 = if x5 = 3 then some (nI (chg D.1 s x)) else some (-1) := by
    intro i x5 hi
    unfold f_X1_leadsTo_b124
    rw [(ea _ (by omega) i hi).2, if_neg sz]
  have b73 : ∀ (i : Nat) (x5 : Int32), i < 4 → f_X1_leadsTo_b73 (nI D.1) (nI (NN D.1)) (nI (kk D.1 D.2.1)) g.1 g.2.1 (nI s) (nI x) (mkI D.1 mk) (nI (4 * chg D.1 s x + i)) x5 (nI (aft D.1 x)) = if ((x5 ||| (if dg D.1 s x = mk then 1 else 0)) ||| (if dg D.1 s (aft D.1 x) = mk then 2 else 0)) = 3 then some (nI (chg D.1 s x)) else some (-1) := by
    intro i x5 hi
    unfold f_X1_leadsTo_b73 f_X1_leadsTo_b96 f_X1_leadsTo_b121
    rw [bdn _ (by omega) (by omega), nI_cl (by omega), g4 s hs, tb_who D.1 s hs x hxn, Option.bind_some, bdn _ (by omega) (by omega), bdn _ (by omega) (by omega), tb_who D.1 s hs _ hy, Option.bind_some, Option.bind_some]
    simp only [b124 _ _ hi]
    by_cases q1 : dg D.1 s x = mk
    · rw [if_pos ((mkn _ d1).mpr q1), if_pos q1]
      by_cases q2 : dg D.1 s (aft D.1 x) = mk
      · rw [if_pos ((mkn _ d2).mpr q2), if_pos q2]
      · rw [if_neg (fun q => q2 ((mkn _ d2).mp q)), if_neg q2]
    · rw [if_neg (fun q => q1 ((mkn _ d1).mp q)), if_neg q1]
      by_cases q2 : dg D.1 s (aft D.1 x) = mk
      · rw [if_pos ((mkn _ d2).mpr q2), if_pos q2]
      · rw [if_neg (fun q => q2 ((mkn _ d2).mp q)), if_neg q2]
  have aft' : (if nI D.1 ≤ nI x + (1 : Int32) then f_X1_leadsTo_b73 (nI D.1) (nI (NN D.1)) (nI (kk D.1 D.2.1)) g.1 g.2.1 (nI s) (nI x) (mkI D.1 mk) (nI (4 * chg D.1 s x + (if lefB D s x then 1 else 0) + (if rigB D s x then 2 else 0))) (nI (4 * chg D.1 s x + (if lefB D s x then 1 else 0) + (if rigB D s x then 2 else 0)) &&& 3) (0 : Int32) else f_X1_leadsTo_b73 (nI D.1) (nI (NN D.1)) (nI (kk D.1 D.2.1)) g.1 g.2.1 (nI s) (nI x) (mkI D.1 mk) (nI (4 * chg D.1 s x + (if lefB D s x then 1 else 0) + (if rigB D s x then 2 else 0))) (nI (4 * chg D.1 s x + (if lefB D s x then 1 else 0) + (if rigB D s x then 2 else 0)) &&& 3) (nI x + (1 : Int32))) = f_X1_leadsTo_b73 (nI D.1) (nI (NN D.1)) (nI (kk D.1 D.2.1)) g.1 g.2.1 (nI s) (nI x) (mkI D.1 mk) (nI (4 * chg D.1 s x + (if lefB D s x then 1 else 0) + (if rigB D s x then 2 else 0))) (nI (4 * chg D.1 s x + (if lefB D s x then 1 else 0) + (if rigB D s x then 2 else 0)) &&& 3) (nI (aft D.1 x)) := by
    rw [show nI x + (1 : Int32) = nI (x + 1) from nI_1 x]
    unfold aft
    by_cases q : x + 1 < D.1
    · rw [if_neg (nI_ge q (by omega)), if_pos q]
    · rw [if_pos (nI_le (by omega) (by omega)), if_neg q]; rfl
  rw [aft']
  rw [Nat.add_assoc]
  have hb4 : ((if lefB D s x = true then 1 else 0) + (if rigB D s x = true then 2 else 0)) < 4 := by split <;> split <;> omega
  rw [b124 _ _ hb4, b73 _ _ hb4, (ea _ (by omega) _ hb4).1]
  unfold ldM suitM
  have nm : ¬ mk < D.1 → dg D.1 s x ≠ mk ∧ dg D.1 s (aft D.1 x) ≠ mk := by intro q; omega
  have mk1 : mkI D.1 mk = -1 ↔ ¬ mk < D.1 := by
    unfold mkI
    by_cases q : mk < D.1
    · rw [if_pos q]
      constructor
      · intro e; exact absurd (show nI mk < 0 by rw [e]; decide) (nI_lt0 (by omega))
      · intro e; exact absurd q e
    · rw [if_neg q]; exact ⟨fun _ => q, fun _ => rfl⟩
  by_cases hm : mk < D.1
  · rw [if_neg (show ¬ mkI D.1 mk = -1 from fun e => (mk1.mp e) hm)]
    cases lefB D s x <;> cases rigB D s x <;> by_cases q1 : dg D.1 s x = mk <;> by_cases q2 : dg D.1 s (aft D.1 x) = mk <;> simp only [q1, q2, if_true, if_false, decide_true, decide_false] <;> rfl
  · obtain ⟨q1, q2⟩ := nm hm
    rw [if_pos (mk1.mpr hm)]
    cases lefB D s x <;> cases rigB D s x <;> simp only [q1, q2, if_true, if_false, decide_false] <;> rfl
end GR
