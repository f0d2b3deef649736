/-! drawing the graph -/
def GOK0 (D : HD) (rows edges : Nat → Int32) : Prop := (∀ a, a < NN D.1 → rows a = nI (rw_ D.1 a)) ∧ (∀ a, a < NN D.1 → ∀ x, x < kk D.1 D.2.1 → edges (a * 6 + x) = nI (4 * chg D.1 a x + (if lefB D a x then 1 else 0) + (if rigB D a x then 2 else 0)))
theorem restB_no {D : HD} {s x : Nat} (hx : x < kk D.1 D.2.1) (h : suitB D s x = true) : restB D s = false := by
  unfold restB
  cases e : (List.range (kk D.1 D.2.1)).all (fun x => !suitB D s x)
  · rfl
  · have := List.all_eq_true.mp e x (List.mem_range.mpr hx)
    rw [h] at this
    exact absurd this (by decide)
theorem restB_yes {D : HD} {s : Nat} (h : ∀ x, x < kk D.1 D.2.1 → suitB D s x = false) : restB D s = true := by
  unfold restB
  exact List.all_eq_true.mpr (fun x hx => by rw [h x (List.mem_range.mp hx)]; rfl)
theorem chg_n0 {n s x : Nat} : ¬ nI (chg n s x) < 0 ∨ 720 ≤ chg n s x := by
  rcases Nat.lt_or_ge (chg n s x) 720 with h | h
  · exact Or.inl (nI_lt0 (by omega))
  · exact Or.inr h
section DR
variable {D : HD} {bp sc kd lk : Nat → Int32}
/-- a drawn graph, whatever its two last numbers are -/
theorem E_leads0 (ok : HOK D) {rows edges : Nat → Int32} (hG : GOK0 D rows edges) {s x mk : Nat} (hs : s < NN D.1) (hx : x < kk D.1 D.2.1) : f_X1_leadsTo (nI s) (nI x) (mkI D.1 mk) (nI D.1) (nI (NN D.1)) (nI (kk D.1 D.2.1)) rows edges = some (ldM D mk s x) :=
  E_leads (g := (rows, edges, nI D.1, nI (NN D.1), nI (kk D.1 D.2.1), nI (rests D 0 (NN D.1)), frest D 0 (NN D.1))) ok ⟨rfl, rfl, rfl, hG.1, hG.2, rfl, rfl⟩ hs hx
theorem mkI_no (ok : HOK D) : mkI D.1 99 = -1 := by
  have := ok.2.1
  unfold mkI; rw [if_neg (by omega)]
theorem ldM_no (ok : HOK D) {s x : Nat} (hs : s < NN D.1) (hx : x < kk D.1 D.2.1) : ldM D 99 s x = if suitB D s x then nI (chg D.1 s x) else -1 := by
  have h6 := ok.2.1
  have hkk := (kk_bd (rg := D.2.1) ok.1 h6).2
  unfold ldM
  rw [suitM_no hs h6 (by omega) (by omega)]
theorem E_isRest_l (ok : HOK D) {rows edges : Nat → Int32} (hG : GOK0 D rows edges) {s : Nat} (hs : s < NN D.1) : ∀ (j k f : Nat), k + j = kk D.1 D.2.1 → j < f → (∀ x, x < k → suitB D s x = false) → f_X1_isRest_l2 (nI D.1) (nI (NN D.1)) (nI (kk D.1 D.2.1)) rows edges f (nI s) (nI k) = some (bI (restB D s)) := by
  have h2 := ok.1
  have h6 := ok.2.1
  have hN := NN_le D.1
  have hkk := (kk_bd (rg := D.2.1) h2 h6).2
  intro j
  induction j with
  | zero =>
    intro k f hk hf h
    obtain ⟨f, rfl⟩ : ∃ g, f = g + 1 := ⟨f - 1, by omega⟩
    rw [f_X1_isRest_l2.eq_2, if_pos (nI_le (by omega) (by omega)), restB_yes (fun x hx => h x (by omega))]; rfl
  | succ j ih =>
    intro k f hk hf h
    obtain ⟨f, rfl⟩ : ∃ g, f = g + 1 := ⟨f - 1, by omega⟩
    have hc := tb_chg D.1 s hs k (by omega)
    rw [f_X1_isRest_l2.eq_2, if_neg (nI_ge (by omega) (by omega)), ← mkI_no ok, E_leads0 ok hG hs (by omega), Option.bind_some, ldM_no ok hs (by omega), show nI k + (1 : Int32) = nI (k + 1) from nI_1 k]
    cases e : suitB D s k
    · rw [if_pos (show (if false = true then nI (chg D.1 s k) else (-1 : Int32)) < 0 by rw [if_neg (by decide)]; decide)]
      exact ih (k + 1) f (by omega) (by omega) (fun x hx => by
        by_cases q : x = k
        · rw [q]; exact e
        · exact h x (by omega))
    · rw [if_neg (show ¬ (if true = true then nI (chg D.1 s k) else (-1 : Int32)) < 0 by rw [if_pos rfl]; exact nI_lt0 (by omega)), restB_no (by omega) e]; rfl
theorem E_isRest (ok : HOK D) {rows edges : Nat → Int32} (hG : GOK0 D rows edges) {s : Nat} (hs : s < NN D.1) : f_X1_isRest (nI s) (nI D.1) (nI (NN D.1)) (nI (kk D.1 D.2.1)) rows edges = some (bI (restB D s)) := by
  have h0 := NF_big
  have h6 := ok.2.1
  have hkk := (kk_bd (rg := D.2.1) ok.1 h6).2
  exact E_isRest_l ok hG hs (kk D.1 D.2.1) 0 NF (by omega) (by omega) (fun x hx => absurd hx (by omega))
theorem E_countRests_l (ok : HOK D) {rows edges : Nat → Int32} (hG : GOK0 D rows edges) : ∀ (m f : Nat), m ≤ NN D.1 → m < f → f_X1_countRests_l17 (nI D.1) (nI (NN D.1)) (nI (kk D.1 D.2.1)) rows edges f (nI m - 1) (nI (rests D m (NN D.1 - m))) (frest D m (NN D.1 - m)) = some (nI (rests D 0 (NN D.1)), frest D 0 (NN D.1)) := by
  have hN := NN_le D.1
  intro m
  induction m with
  | zero =>
    intro f hm hf
    obtain ⟨f, rfl⟩ : ∃ g, f = g + 1 := ⟨f - 1, by omega⟩
    rw [f_X1_countRests_l17.eq_2, if_pos (show nI 0 - 1 < (0 : Int32) by decide), Nat.sub_zero]
  | succ m ih =>
    intro f hm hf
    obtain ⟨f, rfl⟩ : ∃ g, f = g + 1 := ⟨f - 1, by omega⟩
    have e : nI m + (-1 : Int32) = nI m - 1 := (Int32.sub_eq_add_neg (nI m) 1).symm
    have hstep := ih f (by omega) (by omega)
    rw [show NN D.1 - m = (NN D.1 - (m + 1)) + 1 by omega] at hstep
    rw [show rests D m (NN D.1 - (m + 1) + 1) = rests D (m + 1) (NN D.1 - (m + 1)) + (if restB D m then 1 else 0) from rfl, show frest D m (NN D.1 - (m + 1) + 1) = (if restB D m then nI m else frest D (m + 1) (NN D.1 - (m + 1))) from rfl] at hstep
    rw [f_X1_countRests_l17.eq_2, nI_s1 (by omega), show m + 1 - 1 = m by omega, if_neg (nI_lt0 (by omega)), E_isRest ok hG (by omega), Option.bind_some]
    unfold f_X1_countRests_b44
    rw [e]
    cases hr : restB D m
    · rw [hr] at hstep
      rw [if_pos (show bI false = 0 from rfl)]
      exact hstep
    · rw [hr] at hstep
      rw [if_neg (show ¬ bI true = 0 by decide), show nI (rests D (m + 1) (NN D.1 - (m + 1))) + (1 : Int32) = nI (rests D (m + 1) (NN D.1 - (m + 1)) + 1) from nI_1 _]
      exact hstep
theorem E_countRests (ok : HOK D) {rows edges : Nat → Int32} (hG : GOK0 D rows edges) {r1 r2 : Int32} : f_X1_countRests (nI D.1) (nI (NN D.1)) (nI (kk D.1 D.2.1)) r1 r2 rows edges = some (nI (rests D 0 (NN D.1)), frest D 0 (NN D.1)) := by
  have h0 := NF_big
  have hN := NN_le D.1
  have h := E_countRests_l ok hG (NN D.1) NF (Nat.le_refl _) (by omega)
  rw [Nat.sub_self] at h
  exact h
theorem E_drawEdges_l (ok : HOK D) (hx : HX D bp sc kd lk) {rows : Nat → Int32} {s : Nat} (hs : s < NN D.1) : ∀ (j k f : Nat) (ed : Nat → Int32), k + j = kk D.1 D.2.1 → j < f → ∃ ed', f_X1_drawEdges_l10 (nI D.1) (nI (kk D.1 D.2.1)) rows (nI D.1) (nI D.2.1) bp sc kd lk f (nI s) (nI (rw_ D.1 s)) (nI k) ed = some ed' ∧ (∀ x, k ≤ x → x < kk D.1 D.2.1 → ed' (s * 6 + x) = nI (4 * chg D.1 s x + (if lefB D s x then 1 else 0) + (if rigB D s x then 2 else 0))) ∧ (∀ q, q < s * 6 + k ∨ s * 6 + 6 ≤ q → ed' q = ed q) := by
  have h2 := ok.1
  have h6 := ok.2.1
  have hN := NN_le D.1
  have hkk := (kk_bd (rg := D.2.1) h2 h6).2
  intro j
  induction j with
  | zero =>
    intro k f ed hk hf
    obtain ⟨f, rfl⟩ : ∃ g, f = g + 1 := ⟨f - 1, by omega⟩
    refine ⟨ed, ?_, fun x h1 h2 => absurd h2 (by omega), fun _ _ => rfl⟩
    rw [f_X1_drawEdges_l10.eq_2, if_pos (nI_le (by omega) (by omega))]
  | succ j ih =>
    intro k f ed hk hf
    obtain ⟨f, rfl⟩ : ∃ g, f = g + 1 := ⟨f - 1, by omega⟩
    have hkn : k < D.1 := by omega
    have hy := aft_lt D.1 (by omega) k hkn
    have hc := tb_chg D.1 s hs k hkn
    obtain ⟨b1, b2, b3, b4⟩ := eb (chg D.1 s k) (by omega)
    obtain ⟨ed', i1, i2, i3⟩ := ih (k + 1) f (upd ed (s * 6 + k) (nI (4 * chg D.1 s k + (if lefB D s k then 1 else 0) + (if rigB D s k then 2 else 0)))) (by omega) (by omega)
    refine ⟨ed', ?_, fun x x1 x2 => ?_, fun q hq => ?_⟩
    · have fin : ∀ v : Int32, v = nI (4 * chg D.1 s k + (if lefB D s k then 1 else 0) + (if rigB D s k then 2 else 0)) → f_X1_drawEdges_b89 (nI D.1) (nI (kk D.1 D.2.1)) rows (nI D.1) (nI D.2.1) bp sc kd lk (f_X1_drawEdges_l10 (nI D.1) (nI (kk D.1 D.2.1)) rows (nI D.1) (nI D.2.1) bp sc kd lk f) (nI s) (nI (rw_ D.1 s)) (nI k) v ed = some ed' := by
        intro v hv
        unfold f_X1_drawEdges_b89
        rw [show nI s * (6 : Int32) + nI k = nI (s * 6 + k) from nI_ma' s 6 k, bdn _ (by omega) (by omega), nI_cl (by omega), show nI k + (1 : Int32) = nI (k + 1) from nI_1 k, hv]
        exact i1
      rw [f_X1_drawEdges_l10.eq_2, if_neg (nI_ge (by omega) (by omega)), E_after D.1 (by omega) k hkn, Option.bind_some, E_changed h6 hs hkn, Option.bind_some, tb_rank D.1 _ hc, Option.bind_some, E_agrees ok hx hs hc hkn hy, Option.bind_some]
      unfold f_X1_drawEdges_b69
      rw [E_agrees ok hx hs hc hy hkn, Option.bind_some, Option.bind_some, b1]
      change (if bI (lefB D s k) = 0 then (if bI (rigB D s k) = 0 then _ else _) else (if bI (rigB D s k) = 0 then _ else _)) = _
      cases hl : lefB D s k <;> cases hr : rigB D s k <;> rw [hl, hr] at fin
      · rw [if_pos (show bI false = 0 from rfl), if_pos (show bI false = 0 from rfl)]; exact fin _ rfl
      · rw [if_pos (show bI false = 0 from rfl), if_neg (show ¬ bI true = 0 by decide)]; exact fin _ b3
      · rw [if_neg (show ¬ bI true = 0 by decide), if_pos (show bI false = 0 from rfl)]; exact fin _ b2
      · rw [if_neg (show ¬ bI true = 0 by decide), if_neg (show ¬ bI true = 0 by decide)]; exact fin _ (by rw [b2]; exact b4)
    · by_cases h : x = k
      · subst h; rw [i3 _ (Or.inl (by omega)), pk_us]
      · exact i2 x (by omega) x2
    · rw [i3 q (by omega), pk_un (by omega)]
theorem E_draw77 (ok : HOK D) (hx : HX D bp sc kd lk) {rows : Nat → Int32} (hr : ∀ a, a < NN D.1 → rows a = nI (rw_ D.1 a)) {r1 r2 : Int32} : ∀ (j s f : Nat) (ed : Nat → Int32), s + j = NN D.1 → j < f → (∀ a, a < s → ∀ x, x < kk D.1 D.2.1 → ed (a * 6 + x) = nI (4 * chg D.1 a x + (if lefB D a x then 1 else 0) + (if rigB D a x then 2 else 0))) → ∃ ed', f_X1_draw_l77 (nI D.1) (nI D.2.1) bp sc kd lk f (nI s) (nI D.1) (nI (NN D.1)) (nI (kk D.1 D.2.1)) r1 r2 rows ed = some (nI D.1, nI (NN D.1), nI (kk D.1 D.2.1), nI (rests D 0 (NN D.1)), frest D 0 (NN D.1), rows, ed') ∧ GOK0 D rows ed' := by
  have h2 := ok.1
  have h6 := ok.2.1
  have hN := NN_le D.1
  have h0 := NF_big
  have hkk := (kk_bd (rg := D.2.1) h2 h6).2
  intro j
  induction j with
  | zero =>
    intro s f ed hs hf hed
    obtain ⟨f, rfl⟩ : ∃ g, f = g + 1 := ⟨f - 1, by omega⟩
    have hG : GOK0 D rows ed := ⟨hr, fun a ha x hx => hed a (by omega) x hx⟩
    refine ⟨ed, ?_, hG⟩
    rw [f_X1_draw_l77.eq_2, if_pos (nI_le (by omega) (by omega)), E_countRests ok hG, Option.bind_some]
  | succ j ih =>
    intro s f ed hs hf hed
    obtain ⟨f, rfl⟩ : ∃ g, f = g + 1 := ⟨f - 1, by omega⟩
    obtain ⟨ed1, e1, e2, e3⟩ := E_drawEdges_l (rows := rows) ok hx (show s < NN D.1 by omega) (kk D.1 D.2.1) 0 NF ed (by omega) (by omega)
    have e0 : f_X1_drawEdges (nI s) (nI D.1) (nI (kk D.1 D.2.1)) rows ed (nI D.1) (nI D.2.1) bp sc kd lk = some ed1 := by
      unfold f_X1_drawEdges
      rw [bdn _ (by omega) (by omega), nI_cl (by omega), hr s (by omega)]
      exact e1
    obtain ⟨ed2, i1, i2⟩ := ih (s + 1) f ed1 (by omega) (by omega) (fun a ha x hx => by
      by_cases q : a = s
      · subst q; exact e2 x (by omega) hx
      · rw [e3 _ (Or.inl (by omega))]; exact hed a (by omega) x hx)
    refine ⟨ed2, ?_, i2⟩
    rw [f_X1_draw_l77.eq_2, if_neg (nI_ge (by omega) (by omega)), e0, Option.bind_some, show nI s + (1 : Int32) = nI (s + 1) from nI_1 s]
    exact i1
theorem E_draw29 (ok : HOK D) (hx : HX D bp sc kd lk) {r1 r2 : Int32} {ed : Nat → Int32} : ∀ (j s f : Nat) (rows : Nat → Int32), s + j = NN D.1 → j < f → (∀ a, a < s → rows a = nI (rw_ D.1 a)) → ∃ rows' ed', f_X1_draw_l29 (nI D.1) (nI D.2.1) bp sc kd lk f (nxt D.1 s) (nI D.1) (nI s) (nI (kk D.1 D.2.1)) r1 r2 rows ed = some (nI D.1, nI (NN D.1), nI (kk D.1 D.2.1), nI (rests D 0 (NN D.1)), frest D 0 (NN D.1), rows', ed') ∧ GOK0 D rows' ed' := by
  have hN := NN_le D.1
  have h0 := NF_big
  intro j
  induction j with
  | zero =>
    intro s f rows hs hf hr
    obtain ⟨f, rfl⟩ : ∃ g, f = g + 1 := ⟨f - 1, by omega⟩
    have e : s = NN D.1 := by omega
    obtain ⟨ed', i1, i2⟩ := E_draw77 (r1 := r1) (r2 := r2) ok hx (fun a ha => hr a (by omega)) (NN D.1) 0 NF ed (by omega) (by omega) (fun a ha => absurd ha (by omega))
    refine ⟨rows, ed', ?_, i2⟩
    rw [f_X1_draw_l29.eq_2, if_pos (show nxt D.1 s < 0 by unfold nxt; rw [if_neg (by omega)]; decide), e]
    exact i1
  | succ j ih =>
    intro s f rows hs hf hr
    obtain ⟨f, rfl⟩ : ∃ g, f = g + 1 := ⟨f - 1, by omega⟩
    have hsN : s < NN D.1 := by omega
    have rs := tb_small D.1 s hsN
    have e1 : nxt D.1 s = nI (rw_ D.1 s) := by unfold nxt; rw [if_pos hsN]
    obtain ⟨rows', ed', i1, i2⟩ := ih (s + 1) f (upd rows s (nI (rw_ D.1 s))) (by omega) (by omega) (fun a ha => by
      by_cases q : a = s
      · subst q; exact pk_us
      · rw [pk_un q]; exact hr a (by omega))
    refine ⟨rows', ed', ?_, i2⟩
    rw [f_X1_draw_l29.eq_2, e1, if_neg (nI_lt0 (by omega)), if_neg (show ¬ (720 : Int32) ≤ nI s from nI_ge (b := 720) (by omega) (by omega)), bdn _ (by omega) (by omega), show f_X4_following (nI (rw_ D.1 s)) (nI D.1) = some (nxt D.1 (s + 1)) from tb_next D.1 s hsN, Option.bind_some, nI_cl (by omega), show nI s + (1 : Int32) = nI (s + 1) from nI_1 s]
    exact i1
/-- the graph is drawn behind drawGraph -/
theorem E_drawGraph (ok : HOK D) (hx : HX D bp sc kd lk) {gd : Int32} {g : ZX1} (hG : PG D gd g) : ∃ rows edges, f_X9_drawGraph gd (nI D.1) (nI D.2.1) bp sc kd lk g.2.2.1 g.2.2.2.1 g.2.2.2.2.1 g.2.2.2.2.2.1 g.2.2.2.2.2.2 g.1 g.2.1 = some (1, nI D.1, nI (NN D.1), nI (kk D.1 D.2.1), nI (rests D 0 (NN D.1)), frest D 0 (NN D.1), rows, edges) ∧ GOK0 D rows edges := by
  have h2 := ok.1
  have h6 := ok.2.1
  have hg := ok.2.2.1
  have hN := NN_le D.1
  have h0 := NF_big
  have h1 := NN_1 D.1 (by omega) h2
  unfold f_X9_drawGraph
  rcases hG with rfl | ⟨rfl, g1, g2, g3, g4, g5, g6, g7⟩
  · obtain ⟨rows', ed', i1, i2⟩ := E_draw29 (r1 := g.2.2.2.2.2.1) (r2 := g.2.2.2.2.2.2) (ed := g.2.1) ok hx (NN D.1) 0 NF g.1 (by omega) (by omega) (fun a ha => absurd ha (by omega))
    refine ⟨rows', ed', ?_, i2⟩
    rw [if_pos rfl]
    unfold f_X1_draw
    rw [E_count D.1 (by omega) h2 D.2.1 (by omega), Option.bind_some, tb_first D.1 (by omega) h2, Option.bind_some]
    rw [show nxt D.1 0 = nI (rw_ D.1 0) by unfold nxt; rw [if_pos (by omega)]] at i1
    rw [show f_X1_draw_l29 (nI D.1) (nI D.2.1) bp sc kd lk NF (nI (rw_ D.1 0)) (nI D.1) (0 : Int32) (nI (kk D.1 D.2.1)) g.2.2.2.2.2.1 g.2.2.2.2.2.2 g.1 g.2.1 = _ from i1, Option.bind_some]
  · refine ⟨g.1, g.2.1, ?_, ⟨g4, g5⟩⟩
    rw [if_neg (by decide), g1, g2, g3, g6, g7]
end DR
