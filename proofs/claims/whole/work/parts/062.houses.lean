def f_X2_clear (o_persons : Int32) (o_ring : Int32) (o_highestTold : Int32) (o_likings : Nat → Int32) : Option (Int32 × Int32 × Int32 × (Nat → Int32)) := Option.bind (f_J7_fill_53178 (50 : Int32) 64 o_likings) (fun u_1 => some ((0 : Int32), (0 : Int32), (0 : Int32), u_1))
abbrev rm_X2_clear : Room := { frames := 1, cells := 0, slots := 0, locals := 23 }
theorem kd_X2_clear : yX2_clear.cls ≠ "java/lang/invoke/MethodHandle" ∧ yX2_clear.cls ≠ "java/lang/invoke/VarHandle" ∧ (parseMethodDescriptor yX2_clear.desc).map (fun d => d.parameters.length) = some 0 := by decide +kernel
set_option maxHeartbeats 4000000 in
set_option maxRecDepth 100000 in
theorem c_X2_clear (l : Launch) (dC : Nat → ClassId) (dI : Nat → Nat → Nat) (cI cJ cZ : ClassId) (a_o a_o_bestPlace a_o_stepCost a_o_kind a_o_likings : Nat) (sz : Nat) (o_persons : Int32) (o_ring : Int32) (o_highestTold : Int32) (o_likings : Nat → Int32) (res : Int32 × Int32 × Int32 × (Nat → Int32)) (hf : f_X2_clear o_persons o_ring o_highestTold o_likings = some res) : kMv Unit l yX2_clear cX2_clear 1 rm_X2_clear [.ref a_o] (dC, dI) (kT cI cJ cZ) sz [(a_o, .inr (2, [.int o_persons, .int o_ring, .int o_highestTold, .ref a_o_bestPlace, .ref a_o_stepCost, .ref a_o_kind, .ref a_o_likings])), (a_o_likings, .inl (cI, 64, .inl o_likings))] (fun _ => [(a_o, .inr (2, [.int res.1, .int res.2.1, .int res.2.2.1, .ref a_o_bestPlace, .ref a_o_stepCost, .ref a_o_kind, .ref a_o_likings])), (a_o_likings, .inl (cI, 64, .inl res.2.2.2))]) := by
  refine Met.ofW (cc := cX2_clear) (maxL := 1) (ret := none) (by decide) rfl ?_
  intro p e s m args below meth c s₁ B hml hv
  obtain ⟨rfl, hsz, hP, hK, hD0⟩ := hv
  have hx := B.exec
  have hb := B.bytes
  have hr := B.returns
  have ht : ∀ w ∈ lw_g, w.before ([.ref a_o] : List Value).toArray s = true := fun w h => atoms_spec (ws := kws yX2_clear cX2_clear 1 none) B.pre w (List.mem_cons_of_mem _ h)
  have hown : s.vm.findClass RX2 = some m.cls := findClass_of_methodNamed B.named
  have hlocks := B.notSynchronized
  subst hsz
  have hD := hD0.self (sz := s.heap.size)
  generalize hAe : va_A [(a_o, .inr (2, [.int o_persons, .int o_ring, .int o_highestTold, .ref a_o_bestPlace, .ref a_o_stepCost, .ref a_o_kind, .ref a_o_likings])), (a_o_likings, .inl (cI, 64, .inl o_likings))] s.heap.size = A at hD ⊢
  have hA : ∀ q : Nat, s.heap.size ≤ q → A q := fun q h => by rw [← hAe]; exact Or.inr h
  have hS : va_S A s.heap s.heap [] := va_S.rf
  have hret : ∀ (H : Heap) (locs : List Loc) (ls : Array Slot) (pc : Nat) (o0 : Int32) (o1 : Int32) (o2 : Int32) (o3 : Nat → Int32), some (o0, o1, o2, o3) = some res → decode cX2_clear pc = .ok (.return_, 1) → va_P (dC, dI) vwCl [(a_o, .inr (2, [.int o0, .int o1, .int o2, .ref a_o_bestPlace, .ref a_o_stepCost, .ref a_o_kind, .ref a_o_likings])), (a_o_likings, .inl (cI, 64, .inl o3))] H → va_D A [(a_o, .inr (2, [.int o0, .int o1, .int o2, .ref a_o_bestPlace, .ref a_o_stepCost, .ref a_o_kind, .ref a_o_likings])), (a_o_likings, .inl (cI, 64, .inl o3))] → va_S A s.heap H locs → W p l e (headSpec (kws yX2_clear cX2_clear 1 none) rm_X2_clear).room s m ([.ref a_o] : List Value).toArray below meth c H locs 0 0 (MQ below (kQv Unit (dC, dI) A (fun _ => [(a_o, .inr (2, [.int res.1, .int res.2.1, .int res.2.2.1, .ref a_o_bestPlace, .ref a_o_stepCost, .ref a_o_kind, .ref a_o_likings])), (a_o_likings, .inl (cI, 64, .inl res.2.2.2))])) ([.ref a_o] : List Value).toArray s 0 0 A) (F0 m pc ls []) := by
    intro H locs ls pc o0 o1 o2 o3 he hd hP hD hS
    obtain rfl := Option.some.inj he
    exact krv hx hb hr hlocks () hP hD hS hd
  have hl := lv_entry ([.ref a_o]) (n := 1) (Nat.le_of_ble_eq_true rfl)
  rw [lg_entry_eq]
  generalize (lg_sl ([.ref a_o]) ++ List.replicate (1 - (lg_sl ([.ref a_o])).length) Slot.unset).toArray = ls at hl ⊢
  have hl : lv_has ls 1 [(0, .ref a_o)] := hl
  generalize (MQ below _ ([.ref a_o] : List Value).toArray s 0 0 A) = Q at hret ⊢
  generalize ([.ref a_o] : List Value).toArray = args at ht hret ⊢
  have hP : va_P (dC, dI) vwCl [(a_o, .inr (2, [.int o_persons, .int o_ring, .int o_highestTold, .ref a_o_bestPlace, .ref a_o_stepCost, .ref a_o_kind, .ref a_o_likings])), (a_o_likings, .inl (cI, 64, .inl o_likings))] s.heap := hP
  unfold f_X2_clear at hf
  obtain ⟨H, hH⟩ : ∃ H, H = s.heap := ⟨_, rfl⟩
  obtain ⟨locs, hlo⟩ : ∃ L : List Loc, L = [] := ⟨_, rfl⟩
  rw [← hH] at hP
  have hS : va_S A s.heap H locs := by rw [hH, hlo]; exact hS
  rw [show W p l e (headSpec (kws yX2_clear cX2_clear 1 none) rm_X2_clear).room s m args below meth c s.heap [] 0 0 Q (F0 m 0 ls []) = W p l e (headSpec (kws yX2_clear cX2_clear 1 none) rm_X2_clear).room s m args below meth c H locs 0 0 Q (F0 m 0 ls []) from by rw [hH, hlo]]
  refine lv_aload_n hx hb dX2_clear_0 rfl (lv_at hl 0 rfl) ?_
  refine lv_iconst (v := (0 : Int32)) hx hb dX2_clear_1 (by decide) ?_
  refine va_put (ci := 2) (v := .int (0 : Int32)) (ty := .int) (C := RX2) (T := TX2) (N := 7) hx hb ht inX2 tyX2 tyX2_ok nmX2 hown hK hP hD hS 0 rfl rfl 0 (by decide) (ht _ wd_1_54) (fun _ h9 => h9) rfl (tyX2_ok 0 (by decide)) rfl rfl (Nat.le_of_ble_eq_true rfl) dX2_clear_2 (fun H locs hP hD hS => ?_)
  have hP : va_P (dC, dI) vwCl [(a_o, .inr (2, [.int (0 : Int32), .int o_ring, .int o_highestTold, .ref a_o_bestPlace, .ref a_o_stepCost, .ref a_o_kind, .ref a_o_likings])), (a_o_likings, .inl (cI, 64, .inl o_likings))] H := hP
  have hD : va_D A [(a_o, .inr (2, [.int (0 : Int32), .int o_ring, .int o_highestTold, .ref a_o_bestPlace, .ref a_o_stepCost, .ref a_o_kind, .ref a_o_likings])), (a_o_likings, .inl (cI, 64, .inl o_likings))] := hD
  refine lv_aload_n hx hb dX2_clear_5 rfl (lv_at hl 0 rfl) ?_
  refine lv_iconst (v := (0 : Int32)) hx hb dX2_clear_6 (by decide) ?_
  refine va_put (ci := 2) (v := .int (0 : Int32)) (ty := .boolean) (C := RX2) (T := TX2) (N := 7) hx hb ht inX2 tyX2 tyX2_ok nmX2 hown hK hP hD hS 0 rfl rfl 1 (by decide) (ht _ wd_1_57) (fun _ h9 => h9) rfl (tyX2_ok 1 (by decide)) rfl rfl (Nat.le_of_ble_eq_true rfl) dX2_clear_7 (fun H locs hP hD hS => ?_)
  have hP : va_P (dC, dI) vwCl [(a_o, .inr (2, [.int (0 : Int32), .int (0 : Int32), .int o_highestTold, .ref a_o_bestPlace, .ref a_o_stepCost, .ref a_o_kind, .ref a_o_likings])), (a_o_likings, .inl (cI, 64, .inl o_likings))] H := hP
  have hD : va_D A [(a_o, .inr (2, [.int (0 : Int32), .int (0 : Int32), .int o_highestTold, .ref a_o_bestPlace, .ref a_o_stepCost, .ref a_o_kind, .ref a_o_likings])), (a_o_likings, .inl (cI, 64, .inl o_likings))] := hD
  refine lv_aload_n hx hb dX2_clear_10 rfl (lv_at hl 0 rfl) ?_
  refine lv_iconst (v := (0 : Int32)) hx hb dX2_clear_11 (by decide) ?_
  refine va_put (ci := 2) (v := .int (0 : Int32)) (ty := .int) (C := RX2) (T := TX2) (N := 7) hx hb ht inX2 tyX2 tyX2_ok nmX2 hown hK hP hD hS 0 rfl rfl 2 (by decide) (ht _ wd_1_58) (fun _ h9 => h9) rfl (tyX2_ok 2 (by decide)) rfl rfl (Nat.le_of_ble_eq_true rfl) dX2_clear_12 (fun H locs hP hD hS => ?_)
  have hP : va_P (dC, dI) vwCl [(a_o, .inr (2, [.int (0 : Int32), .int (0 : Int32), .int (0 : Int32), .ref a_o_bestPlace, .ref a_o_stepCost, .ref a_o_kind, .ref a_o_likings])), (a_o_likings, .inl (cI, 64, .inl o_likings))] H := hP
  have hD : va_D A [(a_o, .inr (2, [.int (0 : Int32), .int (0 : Int32), .int (0 : Int32), .ref a_o_bestPlace, .ref a_o_stepCost, .ref a_o_kind, .ref a_o_likings])), (a_o_likings, .inl (cI, 64, .inl o_likings))] := hD
  refine lv_aload_n hx hb dX2_clear_15 rfl (lv_at hl 0 rfl) ?_
  refine va_get (ci := 2) (v := .ref a_o_likings) (C := RX2) (T := TX2) (N := 7) hx hb ht inX2 hown hK hP 0 rfl rfl 6 (by decide) (ht _ wd_1_67) (fun _ h9 => h9) rfl dX2_clear_16 ?_
  refine lv_bipush (v := (50 : Int32)) hx hb dX2_clear_19 (by decide) ?_
  obtain ⟨u_1, h_2, hf⟩ := obs hf
  refine kcSv (rest := []) (wr := [(a_o, .inr (2, [.int (0 : Int32), .int (0 : Int32), .int (0 : Int32), .ref a_o_bestPlace, .ref a_o_stepCost, .ref a_o_kind, .ref a_o_likings]))]) (w2 := fun _ => [(a_o, .inr (2, [.int (0 : Int32), .int (0 : Int32), .int (0 : Int32), .ref a_o_bestPlace, .ref a_o_stepCost, .ref a_o_kind, .ref a_o_likings])), (a_o_likings, .inl (cI, 64, .inl u_1))]) hx hb hml hown ht (c_J7_fill_53178 l dC dI cI cJ cZ a_o_likings H.size 64 o_likings (50 : Int32) u_1 h_2) (kcw 2 ht wd_1_53 wd_1_4 wd_1_51 kd_J7_fill_53178 ⟨rfl, rfl⟩ ⟨Nat.le_of_ble_eq_true rfl, Nat.le_of_ble_eq_true rfl⟩) wd_1_52 hK hP hD hS hA [1] [0] [0, 1] rfl rfl rfl rfl (by decide) rfl (fun _ => rfl) rfl hl.1 rfl (Nat.le_of_ble_eq_true rfl) dX2_clear_21 ⟨Nat.zero_le _, Nat.zero_le _⟩ (fun _ H locs hP hD hS => ?_)
  have hP : va_P (dC, dI) vwCl [(a_o, .inr (2, [.int (0 : Int32), .int (0 : Int32), .int (0 : Int32), .ref a_o_bestPlace, .ref a_o_stepCost, .ref a_o_kind, .ref a_o_likings])), (a_o_likings, .inl (cI, 64, .inl u_1))] H := hP
  have hD : va_D A [(a_o, .inr (2, [.int (0 : Int32), .int (0 : Int32), .int (0 : Int32), .ref a_o_bestPlace, .ref a_o_stepCost, .ref a_o_kind, .ref a_o_likings])), (a_o_likings, .inl (cI, 64, .inl u_1))] := hD
  exact hret H locs ls 24 (0 : Int32) (0 : Int32) (0 : Int32) u_1 hf dX2_clear_24 hP hD hS
def f_X2_addPerson (x1 : Int32) (x2 : Int32) (x3 : Int32) (o_persons : Int32) (o_highestTold : Int32) (o_bestPlace : Nat → Int32) (o_stepCost : Nat → Int32) (o_kind : Nat → Int32) : Option (Int32 × Int32 × Int32 × (Nat → Int32) × (Nat → Int32) × (Nat → Int32)) := if (6 : Int32) ≤ o_persons then some ((0 : Int32), o_persons, o_highestTold, o_bestPlace, o_stepCost, o_kind) else if (6 : Int32) ≤ x1 then some ((0 : Int32), o_persons, o_highestTold, o_bestPlace, o_stepCost, o_kind) else if (20 : Int32) < x2 then some ((0 : Int32), o_persons, o_highestTold, o_bestPlace, o_stepCost, o_kind) else if x3 ≤ (4 : Int32) then bd o_persons 8 (bd o_persons 8 (bd o_persons 8 (some ((1 : Int32), (o_persons + (1 : Int32)), (if o_highestTold < x1 then x1 else o_highestTold), (upd o_bestPlace o_persons.toNatClampNeg x1), (upd o_stepCost o_persons.toNatClampNeg x2), (upd o_kind o_persons.toNatClampNeg x3))))) else some ((0 : Int32), o_persons, o_highestTold, o_bestPlace, o_stepCost, o_kind)
abbrev rm_X2_addPerson : Room := { frames := 1, cells := 0, slots := 0, locals := 24 }
theorem kd_X2_addPerson : yX2_addPerson.cls ≠ "java/lang/invoke/MethodHandle" ∧ yX2_addPerson.cls ≠ "java/lang/invoke/VarHandle" ∧ (parseMethodDescriptor yX2_addPerson.desc).map (fun d => d.parameters.length) = some 3 := by decide +kernel
set_option maxHeartbeats 4000000 in
set_option maxRecDepth 100000 in
theorem c_X2_addPerson (l : Launch) (dC : Nat → ClassId) (dI : Nat → Nat → Nat) (cI cJ cZ : ClassId) (a_o a_o_bestPlace a_o_stepCost a_o_kind a_o_likings : Nat) (sz : Nat) (o_persons : Int32) (o_ring : Int32) (o_highestTold : Int32) (o_bestPlace : Nat → Int32) (o_stepCost : Nat → Int32) (o_kind : Nat → Int32) (x1 : Int32) (x2 : Int32) (x3 : Int32) (res : Int32 × Int32 × Int32 × (Nat → Int32) × (Nat → Int32) × (Nat → Int32)) (hf : f_X2_addPerson x1 x2 x3 o_persons o_highestTold o_bestPlace o_stepCost o_kind = some res) : kMi Unit l yX2_addPerson cX2_addPerson 4 (some .boolean) rm_X2_addPerson [.ref a_o, .int x1, .int x2, .int x3] (dC, dI) (kT cI cJ cZ) sz [(a_o, .inr (2, [.int o_persons, .int o_ring, .int o_highestTold, .ref a_o_bestPlace, .ref a_o_stepCost, .ref a_o_kind, .ref a_o_likings])), (a_o_bestPlace, .inl (cI, 8, .inl o_bestPlace)), (a_o_stepCost, .inl (cI, 8, .inl o_stepCost)), (a_o_kind, .inl (cI, 8, .inl o_kind))] res.1 (fun _ => [(a_o, .inr (2, [.int res.2.1, .int o_ring, .int res.2.2.1, .ref a_o_bestPlace, .ref a_o_stepCost, .ref a_o_kind, .ref a_o_likings])), (a_o_bestPlace, .inl (cI, 8, .inl res.2.2.2.1)), (a_o_stepCost, .inl (cI, 8, .inl res.2.2.2.2.1)), (a_o_kind, .inl (cI, 8, .inl res.2.2.2.2.2))]) := by
  refine Met.ofW (cc := cX2_addPerson) (maxL := 4) (ret := (some .boolean)) (by decide) rfl ?_
  intro p e s m args below meth c s₁ B hml hv
  obtain ⟨rfl, hsz, hP, hK, hD0⟩ := hv
  have hx := B.exec
  have hb := B.bytes
  have hr := B.returns
  have ht : ∀ w ∈ lw_g, w.before ([.ref a_o, .int x1, .int x2, .int x3] : List Value).toArray s = true := fun w h => atoms_spec (ws := kws yX2_addPerson cX2_addPerson 4 (some .boolean)) B.pre w (List.mem_cons_of_mem _ h)
  have hown : s.vm.findClass RX2 = some m.cls := findClass_of_methodNamed B.named
  have hlocks := B.notSynchronized
  subst hsz
  have hD := hD0.self (sz := s.heap.size)
  generalize hAe : va_A [(a_o, .inr (2, [.int o_persons, .int o_ring, .int o_highestTold, .ref a_o_bestPlace, .ref a_o_stepCost, .ref a_o_kind, .ref a_o_likings])), (a_o_bestPlace, .inl (cI, 8, .inl o_bestPlace)), (a_o_stepCost, .inl (cI, 8, .inl o_stepCost)), (a_o_kind, .inl (cI, 8, .inl o_kind))] s.heap.size = A at hD ⊢
  have hA : ∀ q : Nat, s.heap.size ≤ q → A q := fun q h => by rw [← hAe]; exact Or.inr h
  have hS : va_S A s.heap s.heap [] := va_S.rf
  have hret : ∀ (H : Heap) (locs : List Loc) (ls : Array Slot) (pc : Nat) (v : Int32) (o0 : Int32) (o1 : Int32) (o2 : Nat → Int32) (o3 : Nat → Int32) (o4 : Nat → Int32), some (v, o0, o1, o2, o3, o4) = some res → (v = 0 ∨ v = 1) → decode cX2_addPerson pc = .ok (.ireturn, 1) → va_P (dC, dI) vwCl [(a_o, .inr (2, [.int o0, .int o_ring, .int o1, .ref a_o_bestPlace, .ref a_o_stepCost, .ref a_o_kind, .ref a_o_likings])), (a_o_bestPlace, .inl (cI, 8, .inl o2)), (a_o_stepCost, .inl (cI, 8, .inl o3)), (a_o_kind, .inl (cI, 8, .inl o4))] H → va_D A [(a_o, .inr (2, [.int o0, .int o_ring, .int o1, .ref a_o_bestPlace, .ref a_o_stepCost, .ref a_o_kind, .ref a_o_likings])), (a_o_bestPlace, .inl (cI, 8, .inl o2)), (a_o_stepCost, .inl (cI, 8, .inl o3)), (a_o_kind, .inl (cI, 8, .inl o4))] → va_S A s.heap H locs → W p l e (headSpec (kws yX2_addPerson cX2_addPerson 4 (some .boolean)) rm_X2_addPerson).room s m ([.ref a_o, .int x1, .int x2, .int x3] : List Value).toArray below meth c H locs 0 0 (MQ below (kQi Unit (dC, dI) A res.1 (fun _ => [(a_o, .inr (2, [.int res.2.1, .int o_ring, .int res.2.2.1, .ref a_o_bestPlace, .ref a_o_stepCost, .ref a_o_kind, .ref a_o_likings])), (a_o_bestPlace, .inl (cI, 8, .inl res.2.2.2.1)), (a_o_stepCost, .inl (cI, 8, .inl res.2.2.2.2.1)), (a_o_kind, .inl (cI, 8, .inl res.2.2.2.2.2))])) ([.ref a_o, .int x1, .int x2, .int x3] : List Value).toArray s 0 0 A) (F0 m pc ls [.int v]) := by
    intro H locs ls pc v o0 o1 o2 o3 o4 he hz hd hP hD hS
    obtain rfl := Option.some.inj he
    exact krz hx hb hr hlocks () hz hP hD hS hd
  have hl := lv_entry ([.ref a_o, .int x1, .int x2, .int x3]) (n := 4) (Nat.le_of_ble_eq_true rfl)
  rw [lg_entry_eq]
  generalize (lg_sl ([.ref a_o, .int x1, .int x2, .int x3]) ++ List.replicate (4 - (lg_sl ([.ref a_o, .int x1, .int x2, .int x3])).length) Slot.unset).toArray = ls at hl ⊢
  have hl : lv_has ls 4 [(0, .ref a_o), (1, .int x1), (2, .int x2), (3, .int x3)] := hl
  generalize (MQ below _ ([.ref a_o, .int x1, .int x2, .int x3] : List Value).toArray s 0 0 A) = Q at hret ⊢
  generalize ([.ref a_o, .int x1, .int x2, .int x3] : List Value).toArray = args at ht hret ⊢
  have hP : va_P (dC, dI) vwCl [(a_o, .inr (2, [.int o_persons, .int o_ring, .int o_highestTold, .ref a_o_bestPlace, .ref a_o_stepCost, .ref a_o_kind, .ref a_o_likings])), (a_o_bestPlace, .inl (cI, 8, .inl o_bestPlace)), (a_o_stepCost, .inl (cI, 8, .inl o_stepCost)), (a_o_kind, .inl (cI, 8, .inl o_kind))] s.heap := hP
  unfold f_X2_addPerson at hf
  obtain ⟨H, hH⟩ : ∃ H, H = s.heap := ⟨_, rfl⟩
  obtain ⟨locs, hlo⟩ : ∃ L : List Loc, L = [] := ⟨_, rfl⟩
  rw [← hH] at hP
  have hS : va_S A s.heap H locs := by rw [hH, hlo]; exact hS
  rw [show W p l e (headSpec (kws yX2_addPerson cX2_addPerson 4 (some .boolean)) rm_X2_addPerson).room s m args below meth c s.heap [] 0 0 Q (F0 m 0 ls []) = W p l e (headSpec (kws yX2_addPerson cX2_addPerson 4 (some .boolean)) rm_X2_addPerson).room s m args below meth c H locs 0 0 Q (F0 m 0 ls []) from by rw [hH, hlo]]
  refine lv_aload_n hx hb dX2_addPerson_0 rfl (lv_at hl 0 rfl) ?_
  refine va_get (ci := 2) (v := .int o_persons) (C := RX2) (T := TX2) (N := 7) hx hb ht inX2 hown hK hP 0 rfl rfl 0 (by decide) (ht _ wd_1_54) (fun _ h9 => h9) rfl dX2_addPerson_1 ?_
  refine lv_bipush (v := (6 : Int32)) hx hb dX2_addPerson_4 (by decide) ?_
  refine lv_icmp_ge (tgt := 26) hx hb dX2_addPerson_6 (by decide) (fun c_1 => ?_) (fun c_1 => ?_)
  · have hf := ifp c_1 hf
    refine lv_iconst (v := (0 : Int32)) hx hb dX2_addPerson_26 (by decide) ?_
    exact hret H locs ls 27 (0 : Int32) o_persons o_highestTold o_bestPlace o_stepCost o_kind hf (Or.inl rfl) dX2_addPerson_27 hP hD hS
  · have hf := ifn c_1 hf
    refine lv_iload_n hx hb dX2_addPerson_9 rfl (lv_at hl 1 rfl) ?_
    refine lv_bipush (v := (6 : Int32)) hx hb dX2_addPerson_10 (by decide) ?_
    refine lv_icmp_ge (tgt := 26) hx hb dX2_addPerson_12 (by decide) (fun c_2 => ?_) (fun c_2 => ?_)
    · have hf := ifp c_2 hf
      refine lv_iconst (v := (0 : Int32)) hx hb dX2_addPerson_26 (by decide) ?_
      exact hret H locs ls 27 (0 : Int32) o_persons o_highestTold o_bestPlace o_stepCost o_kind hf (Or.inl rfl) dX2_addPerson_27 hP hD hS
    · have hf := ifn c_2 hf
      refine lv_iload_n hx hb dX2_addPerson_15 rfl (lv_at hl 2 rfl) ?_
      refine lv_bipush (v := (20 : Int32)) hx hb dX2_addPerson_16 (by decide) ?_
      refine lv_icmp_gt (tgt := 26) hx hb dX2_addPerson_18 (by decide) (fun c_3 => ?_) (fun c_3 => ?_)
      · have hf := ifp c_3 hf
        refine lv_iconst (v := (0 : Int32)) hx hb dX2_addPerson_26 (by decide) ?_
        exact hret H locs ls 27 (0 : Int32) o_persons o_highestTold o_bestPlace o_stepCost o_kind hf (Or.inl rfl) dX2_addPerson_27 hP hD hS
      · have hf := ifn c_3 hf
        refine lv_iload_n hx hb dX2_addPerson_21 rfl (lv_at hl 3 rfl) ?_
        refine lv_iconst (v := (4 : Int32)) hx hb dX2_addPerson_22 (by decide) ?_
        refine lv_icmp_le (tgt := 28) hx hb dX2_addPerson_23 (by decide) (fun c_4 => ?_) (fun c_4 => ?_)
        · have hf := ifp c_4 hf
          refine lv_aload_n hx hb dX2_addPerson_28 rfl (lv_at hl 0 rfl) ?_
          refine va_get (ci := 2) (v := .ref a_o_bestPlace) (C := RX2) (T := TX2) (N := 7) hx hb ht inX2 hown hK hP 0 rfl rfl 3 (by decide) (ht _ wd_1_59) (fun _ h9 => h9) rfl dX2_addPerson_29 ?_
          refine lv_aload_n hx hb dX2_addPerson_32 rfl (lv_at hl 0 rfl) ?_
          refine va_get (ci := 2) (v := .int o_persons) (C := RX2) (T := TX2) (N := 7) hx hb ht inX2 hown hK hP 0 rfl rfl 0 (by decide) (ht _ wd_1_54) (fun _ h9 => h9) rfl dX2_addPerson_33 ?_
          refine lv_iload_n hx hb dX2_addPerson_36 rfl (lv_at hl 1 rfl) ?_
          obtain ⟨b_5, hf⟩ := bd_some hf
          refine va_iast hx hb hK hP hD hS 1 0 rfl rfl b_5 dX2_addPerson_37 (fun H locs hP hD hS => ?_)
          have hP : va_P (dC, dI) vwCl [(a_o, .inr (2, [.int o_persons, .int o_ring, .int o_highestTold, .ref a_o_bestPlace, .ref a_o_stepCost, .ref a_o_kind, .ref a_o_likings])), (a_o_bestPlace, .inl (cI, 8, .inl (upd o_bestPlace o_persons.toNatClampNeg x1))), (a_o_stepCost, .inl (cI, 8, .inl o_stepCost)), (a_o_kind, .inl (cI, 8, .inl o_kind))] H := hP
          have hD : va_D A [(a_o, .inr (2, [.int o_persons, .int o_ring, .int o_highestTold, .ref a_o_bestPlace, .ref a_o_stepCost, .ref a_o_kind, .ref a_o_likings])), (a_o_bestPlace, .inl (cI, 8, .inl (upd o_bestPlace o_persons.toNatClampNeg x1))), (a_o_stepCost, .inl (cI, 8, .inl o_stepCost)), (a_o_kind, .inl (cI, 8, .inl o_kind))] := hD
          refine lv_aload_n hx hb dX2_addPerson_38 rfl (lv_at hl 0 rfl) ?_
          refine va_get (ci := 2) (v := .ref a_o_stepCost) (C := RX2) (T := TX2) (N := 7) hx hb ht inX2 hown hK hP 0 rfl rfl 4 (by decide) (ht _ wd_1_61) (fun _ h9 => h9) rfl dX2_addPerson_39 ?_
          refine lv_aload_n hx hb dX2_addPerson_42 rfl (lv_at hl 0 rfl) ?_
          refine va_get (ci := 2) (v := .int o_persons) (C := RX2) (T := TX2) (N := 7) hx hb ht inX2 hown hK hP 0 rfl rfl 0 (by decide) (ht _ wd_1_54) (fun _ h9 => h9) rfl dX2_addPerson_43 ?_
          refine lv_iload_n hx hb dX2_addPerson_46 rfl (lv_at hl 2 rfl) ?_
          obtain ⟨b_6, hf⟩ := bd_some hf
          refine va_iast hx hb hK hP hD hS 2 0 rfl rfl b_6 dX2_addPerson_47 (fun H locs hP hD hS => ?_)
          have hP : va_P (dC, dI) vwCl [(a_o, .inr (2, [.int o_persons, .int o_ring, .int o_highestTold, .ref a_o_bestPlace, .ref a_o_stepCost, .ref a_o_kind, .ref a_o_likings])), (a_o_bestPlace, .inl (cI, 8, .inl (upd o_bestPlace o_persons.toNatClampNeg x1))), (a_o_stepCost, .inl (cI, 8, .inl (upd o_stepCost o_persons.toNatClampNeg x2))), (a_o_kind, .inl (cI, 8, .inl o_kind))] H := hP
          have hD : va_D A [(a_o, .inr (2, [.int o_persons, .int o_ring, .int o_highestTold, .ref a_o_bestPlace, .ref a_o_stepCost, .ref a_o_kind, .ref a_o_likings])), (a_o_bestPlace, .inl (cI, 8, .inl (upd o_bestPlace o_persons.toNatClampNeg x1))), (a_o_stepCost, .inl (cI, 8, .inl (upd o_stepCost o_persons.toNatClampNeg x2))), (a_o_kind, .inl (cI, 8, .inl o_kind))] := hD
          refine lv_aload_n hx hb dX2_addPerson_48 rfl (lv_at hl 0 rfl) ?_
          refine va_get (ci := 2) (v := .ref a_o_kind) (C := RX2) (T := TX2) (N := 7) hx hb ht inX2 hown hK hP 0 rfl rfl 5 (by decide) (ht _ wd_1_64) (fun _ h9 => h9) rfl dX2_addPerson_49 ?_
          refine lv_aload_n hx hb dX2_addPerson_52 rfl (lv_at hl 0 rfl) ?_
          refine va_get (ci := 2) (v := .int o_persons) (C := RX2) (T := TX2) (N := 7) hx hb ht inX2 hown hK hP 0 rfl rfl 0 (by decide) (ht _ wd_1_54) (fun _ h9 => h9) rfl dX2_addPerson_53 ?_
          refine lv_iload_n hx hb dX2_addPerson_56 rfl (lv_at hl 3 rfl) ?_
          obtain ⟨b_7, hf⟩ := bd_some hf
          refine va_iast hx hb hK hP hD hS 3 0 rfl rfl b_7 dX2_addPerson_57 (fun H locs hP hD hS => ?_)
          have hP : va_P (dC, dI) vwCl [(a_o, .inr (2, [.int o_persons, .int o_ring, .int o_highestTold, .ref a_o_bestPlace, .ref a_o_stepCost, .ref a_o_kind, .ref a_o_likings])), (a_o_bestPlace, .inl (cI, 8, .inl (upd o_bestPlace o_persons.toNatClampNeg x1))), (a_o_stepCost, .inl (cI, 8, .inl (upd o_stepCost o_persons.toNatClampNeg x2))), (a_o_kind, .inl (cI, 8, .inl (upd o_kind o_persons.toNatClampNeg x3)))] H := hP
          have hD : va_D A [(a_o, .inr (2, [.int o_persons, .int o_ring, .int o_highestTold, .ref a_o_bestPlace, .ref a_o_stepCost, .ref a_o_kind, .ref a_o_likings])), (a_o_bestPlace, .inl (cI, 8, .inl (upd o_bestPlace o_persons.toNatClampNeg x1))), (a_o_stepCost, .inl (cI, 8, .inl (upd o_stepCost o_persons.toNatClampNeg x2))), (a_o_kind, .inl (cI, 8, .inl (upd o_kind o_persons.toNatClampNeg x3)))] := hD
          refine lv_aload_n hx hb dX2_addPerson_58 rfl (lv_at hl 0 rfl) ?_
          refine lv_dup hx hb dX2_addPerson_59 rfl ?_
          refine va_get (ci := 2) (v := .int o_persons) (C := RX2) (T := TX2) (N := 7) hx hb ht inX2 hown hK hP 0 rfl rfl 0 (by decide) (ht _ wd_1_54) (fun _ h9 => h9) rfl dX2_addPerson_60 ?_
          refine lv_iconst (v := (1 : Int32)) hx hb dX2_addPerson_63 (by decide) ?_
          refine lv_iadd hx hb dX2_addPerson_64 ?_
          refine va_put (ci := 2) (v := .int (o_persons + (1 : Int32))) (ty := .int) (C := RX2) (T := TX2) (N := 7) hx hb ht inX2 tyX2 tyX2_ok nmX2 hown hK hP hD hS 0 rfl rfl 0 (by decide) (ht _ wd_1_54) (fun _ h9 => h9) rfl (tyX2_ok 0 (by decide)) rfl rfl (Nat.le_of_ble_eq_true rfl) dX2_addPerson_65 (fun H locs hP hD hS => ?_)
          have hP : va_P (dC, dI) vwCl [(a_o, .inr (2, [.int (o_persons + (1 : Int32)), .int o_ring, .int o_highestTold, .ref a_o_bestPlace, .ref a_o_stepCost, .ref a_o_kind, .ref a_o_likings])), (a_o_bestPlace, .inl (cI, 8, .inl (upd o_bestPlace o_persons.toNatClampNeg x1))), (a_o_stepCost, .inl (cI, 8, .inl (upd o_stepCost o_persons.toNatClampNeg x2))), (a_o_kind, .inl (cI, 8, .inl (upd o_kind o_persons.toNatClampNeg x3)))] H := hP
          have hD : va_D A [(a_o, .inr (2, [.int (o_persons + (1 : Int32)), .int o_ring, .int o_highestTold, .ref a_o_bestPlace, .ref a_o_stepCost, .ref a_o_kind, .ref a_o_likings])), (a_o_bestPlace, .inl (cI, 8, .inl (upd o_bestPlace o_persons.toNatClampNeg x1))), (a_o_stepCost, .inl (cI, 8, .inl (upd o_stepCost o_persons.toNatClampNeg x2))), (a_o_kind, .inl (cI, 8, .inl (upd o_kind o_persons.toNatClampNeg x3)))] := hD
          refine lv_aload_n hx hb dX2_addPerson_68 rfl (lv_at hl 0 rfl) ?_
          refine lv_aload_n hx hb dX2_addPerson_69 rfl (lv_at hl 0 rfl) ?_
          refine va_get (ci := 2) (v := .int o_highestTold) (C := RX2) (T := TX2) (N := 7) hx hb ht inX2 hown hK hP 0 rfl rfl 2 (by decide) (ht _ wd_1_58) (fun _ h9 => h9) rfl dX2_addPerson_70 ?_
          refine lv_iload_n hx hb dX2_addPerson_73 rfl (lv_at hl 1 rfl) ?_
          refine va_mmax hx hb (hml.trans hl.1.symm) hown (ht _ wd_1_219) (ht _ wd_1_90) (ht _ wd_1_6) (ht _ wd_1_91) (Nat.le_of_ble_eq_true rfl) (Nat.le_of_ble_eq_true rfl) (Nat.zero_le _) (Nat.zero_le _) dX2_addPerson_74 ?_
          refine va_put (ci := 2) (v := .int (if o_highestTold < x1 then x1 else o_highestTold)) (ty := .int) (C := RX2) (T := TX2) (N := 7) hx hb ht inX2 tyX2 tyX2_ok nmX2 hown hK hP hD hS 0 rfl rfl 2 (by decide) (ht _ wd_1_58) (fun _ h9 => h9) rfl (tyX2_ok 2 (by decide)) rfl rfl (Nat.le_of_ble_eq_true rfl) dX2_addPerson_77 (fun H locs hP hD hS => ?_)
          have hP : va_P (dC, dI) vwCl [(a_o, .inr (2, [.int (o_persons + (1 : Int32)), .int o_ring, .int (if o_highestTold < x1 then x1 else o_highestTold), .ref a_o_bestPlace, .ref a_o_stepCost, .ref a_o_kind, .ref a_o_likings])), (a_o_bestPlace, .inl (cI, 8, .inl (upd o_bestPlace o_persons.toNatClampNeg x1))), (a_o_stepCost, .inl (cI, 8, .inl (upd o_stepCost o_persons.toNatClampNeg x2))), (a_o_kind, .inl (cI, 8, .inl (upd o_kind o_persons.toNatClampNeg x3)))] H := hP
          have hD : va_D A [(a_o, .inr (2, [.int (o_persons + (1 : Int32)), .int o_ring, .int (if o_highestTold < x1 then x1 else o_highestTold), .ref a_o_bestPlace, .ref a_o_stepCost, .ref a_o_kind, .ref a_o_likings])), (a_o_bestPlace, .inl (cI, 8, .inl (upd o_bestPlace o_persons.toNatClampNeg x1))), (a_o_stepCost, .inl (cI, 8, .inl (upd o_stepCost o_persons.toNatClampNeg x2))), (a_o_kind, .inl (cI, 8, .inl (upd o_kind o_persons.toNatClampNeg x3)))] := hD
          refine lv_iconst (v := (1 : Int32)) hx hb dX2_addPerson_80 (by decide) ?_
          exact hret H locs ls 81 (1 : Int32) (o_persons + (1 : Int32)) (if o_highestTold < x1 then x1 else o_highestTold) (upd o_bestPlace o_persons.toNatClampNeg x1) (upd o_stepCost o_persons.toNatClampNeg x2) (upd o_kind o_persons.toNatClampNeg x3) hf (Or.inr rfl) dX2_addPerson_81 hP hD hS
        · have hf := ifn c_4 hf
          refine lv_iconst (v := (0 : Int32)) hx hb dX2_addPerson_26 (by decide) ?_
          exact hret H locs ls 27 (0 : Int32) o_persons o_highestTold o_bestPlace o_stepCost o_kind hf (Or.inl rfl) dX2_addPerson_27 hP hD hS
def f_X2_setLiking (x1 : Int32) (x2 : Int32) (x3 : Int32) (o_highestTold : Int32) (o_likings : Nat → Int32) : Option (Int32 × Int32 × (Nat → Int32)) := if (6 : Int32) ≤ x1 then some ((0 : Int32), o_highestTold, o_likings) else if (6 : Int32) ≤ x2 then some ((0 : Int32), o_highestTold, o_likings) else if x1 = x2 then some ((0 : Int32), o_highestTold, o_likings) else bd (((8 : Int32) * x1) + x2) 64 (some ((1 : Int32), (if o_highestTold < (if x1 < x2 then x2 else x1) then (if x1 < x2 then x2 else x1) else o_highestTold), (upd o_likings (((8 : Int32) * x1) + x2).toNatClampNeg x3)))
abbrev rm_X2_setLiking : Room := { frames := 1, cells := 0, slots := 0, locals := 24 }
theorem kd_X2_setLiking : yX2_setLiking.cls ≠ "java/lang/invoke/MethodHandle" ∧ yX2_setLiking.cls ≠ "java/lang/invoke/VarHandle" ∧ (parseMethodDescriptor yX2_setLiking.desc).map (fun d => d.parameters.length) = some 3 := by decide +kernel
set_option maxHeartbeats 4000000 in
set_option maxRecDepth 100000 in
theorem c_X2_setLiking (l : Launch) (dC : Nat → ClassId) (dI : Nat → Nat → Nat) (cI cJ cZ : ClassId) (a_o a_o_bestPlace a_o_stepCost a_o_kind a_o_likings : Nat) (sz : Nat) (o_persons : Int32) (o_ring : Int32) (o_highestTold : Int32) (o_likings : Nat → Int32) (x1 : Int32) (x2 : Int32) (x3 : Int32) (res : Int32 × Int32 × (Nat → Int32)) (hf : f_X2_setLiking x1 x2 x3 o_highestTold o_likings = some res) : kMi Unit l yX2_setLiking cX2_setLiking 4 (some .boolean) rm_X2_setLiking [.ref a_o, .int x1, .int x2, .int x3] (dC, dI) (kT cI cJ cZ) sz [(a_o, .inr (2, [.int o_persons, .int o_ring, .int o_highestTold, .ref a_o_bestPlace, .ref a_o_stepCost, .ref a_o_kind, .ref a_o_likings])), (a_o_likings, .inl (cI, 64, .inl o_likings))] res.1 (fun _ => [(a_o, .inr (2, [.int o_persons, .int o_ring, .int res.2.1, .ref a_o_bestPlace, .ref a_o_stepCost, .ref a_o_kind, .ref a_o_likings])), (a_o_likings, .inl (cI, 64, .inl res.2.2))]) := by
  refine Met.ofW (cc := cX2_setLiking) (maxL := 4) (ret := (some .boolean)) (by decide) rfl ?_
  intro p e s m args below meth c s₁ B hml hv
  obtain ⟨rfl, hsz, hP, hK, hD0⟩ := hv
  have hx := B.exec
  have hb := B.bytes
  have hr := B.returns
  have ht : ∀ w ∈ lw_g, w.before ([.ref a_o, .int x1, .int x2, .int x3] : List Value).toArray s = true := fun w h => atoms_spec (ws := kws yX2_setLiking cX2_setLiking 4 (some .boolean)) B.pre w (List.mem_cons_of_mem _ h)
  have hown : s.vm.findClass RX2 = some m.cls := findClass_of_methodNamed B.named
  have hlocks := B.notSynchronized
  subst hsz
  have hD := hD0.self (sz := s.heap.size)
  generalize hAe : va_A [(a_o, .inr (2, [.int o_persons, .int o_ring, .int o_highestTold, .ref a_o_bestPlace, .ref a_o_stepCost, .ref a_o_kind, .ref a_o_likings])), (a_o_likings, .inl (cI, 64, .inl o_likings))] s.heap.size = A at hD ⊢
  have hA : ∀ q : Nat, s.heap.size ≤ q → A q := fun q h => by rw [← hAe]; exact Or.inr h
  have hS : va_S A s.heap s.heap [] := va_S.rf
  have hret : ∀ (H : Heap) (locs : List Loc) (ls : Array Slot) (pc : Nat) (v : Int32) (o0 : Int32) (o1 : Nat → Int32), some (v, o0, o1) = some res → (v = 0 ∨ v = 1) → decode cX2_setLiking pc = .ok (.ireturn, 1) → va_P (dC, dI) vwCl [(a_o, .inr (2, [.int o_persons, .int o_ring, .int o0, .ref a_o_bestPlace, .ref a_o_stepCost, .ref a_o_kind, .ref a_o_likings])), (a_o_likings, .inl (cI, 64, .inl o1))] H → va_D A [(a_o, .inr (2, [.int o_persons, .int o_ring, .int o0, .ref a_o_bestPlace, .ref a_o_stepCost, .ref a_o_kind, .ref a_o_likings])), (a_o_likings, .inl (cI, 64, .inl o1))] → va_S A s.heap H locs → W p l e (headSpec (kws yX2_setLiking cX2_setLiking 4 (some .boolean)) rm_X2_setLiking).room s m ([.ref a_o, .int x1, .int x2, .int x3] : List Value).toArray below meth c H locs 0 0 (MQ below (kQi Unit (dC, dI) A res.1 (fun _ => [(a_o, .inr (2, [.int o_persons, .int o_ring, .int res.2.1, .ref a_o_bestPlace, .ref a_o_stepCost, .ref a_o_kind, .ref a_o_likings])), (a_o_likings, .inl (cI, 64, .inl res.2.2))])) ([.ref a_o, .int x1, .int x2, .int x3] : List Value).toArray s 0 0 A) (F0 m pc ls [.int v]) := by
    intro H locs ls pc v o0 o1 he hz hd hP hD hS
    obtain rfl := Option.some.inj he
    exact krz hx hb hr hlocks () hz hP hD hS hd
  have hl := lv_entry ([.ref a_o, .int x1, .int x2, .int x3]) (n := 4) (Nat.le_of_ble_eq_true rfl)
  rw [lg_entry_eq]
  generalize (lg_sl ([.ref a_o, .int x1, .int x2, .int x3]) ++ List.replicate (4 - (lg_sl ([.ref a_o, .int x1, .int x2, .int x3])).length) Slot.unset).toArray = ls at hl ⊢
  have hl : lv_has ls 4 [(0, .ref a_o), (1, .int x1), (2, .int x2), (3, .int x3)] := hl
  generalize (MQ below _ ([.ref a_o, .int x1, .int x2, .int x3] : List Value).toArray s 0 0 A) = Q at hret ⊢
  generalize ([.ref a_o, .int x1, .int x2, .int x3] : List Value).toArray = args at ht hret ⊢
  have hP : va_P (dC, dI) vwCl [(a_o, .inr (2, [.int o_persons, .int o_ring, .int o_highestTold, .ref a_o_bestPlace, .ref a_o_stepCost, .ref a_o_kind, .ref a_o_likings])), (a_o_likings, .inl (cI, 64, .inl o_likings))] s.heap := hP
  unfold f_X2_setLiking at hf
  obtain ⟨H, hH⟩ : ∃ H, H = s.heap := ⟨_, rfl⟩
  obtain ⟨locs, hlo⟩ : ∃ L : List Loc, L = [] := ⟨_, rfl⟩
  rw [← hH] at hP
  have hS : va_S A s.heap H locs := by rw [hH, hlo]; exact hS
  rw [show W p l e (headSpec (kws yX2_setLiking cX2_setLiking 4 (some .boolean)) rm_X2_setLiking).room s m args below meth c s.heap [] 0 0 Q (F0 m 0 ls []) = W p l e (headSpec (kws yX2_setLiking cX2_setLiking 4 (some .boolean)) rm_X2_setLiking).room s m args below meth c H locs 0 0 Q (F0 m 0 ls []) from by rw [hH, hlo]]
  refine lv_iload_n hx hb dX2_setLiking_0 rfl (lv_at hl 1 rfl) ?_
  refine lv_bipush (v := (6 : Int32)) hx hb dX2_setLiking_1 (by decide) ?_
  refine lv_icmp_ge (tgt := 17) hx hb dX2_setLiking_3 (by decide) (fun c_1 => ?_) (fun c_1 => ?_)
  · have hf := ifp c_1 hf
    refine lv_iconst (v := (0 : Int32)) hx hb dX2_setLiking_17 (by decide) ?_
    exact hret H locs ls 18 (0 : Int32) o_highestTold o_likings hf (Or.inl rfl) dX2_setLiking_18 hP hD hS
  · have hf := ifn c_1 hf
    refine lv_iload_n hx hb dX2_setLiking_6 rfl (lv_at hl 2 rfl) ?_
    refine lv_bipush (v := (6 : Int32)) hx hb dX2_setLiking_7 (by decide) ?_
    refine lv_icmp_ge (tgt := 17) hx hb dX2_setLiking_9 (by decide) (fun c_2 => ?_) (fun c_2 => ?_)
    · have hf := ifp c_2 hf
      refine lv_iconst (v := (0 : Int32)) hx hb dX2_setLiking_17 (by decide) ?_
      exact hret H locs ls 18 (0 : Int32) o_highestTold o_likings hf (Or.inl rfl) dX2_setLiking_18 hP hD hS
    · have hf := ifn c_2 hf
      refine lv_iload_n hx hb dX2_setLiking_12 rfl (lv_at hl 1 rfl) ?_
      refine lv_iload_n hx hb dX2_setLiking_13 rfl (lv_at hl 2 rfl) ?_
      refine lv_icmp_ne (tgt := 19) hx hb dX2_setLiking_14 (by decide) (fun c_3 => ?_) (fun c_3 => ?_)
      · have hf := ifn c_3 hf
        refine lv_aload_n hx hb dX2_setLiking_19 rfl (lv_at hl 0 rfl) ?_
        refine va_get (ci := 2) (v := .ref a_o_likings) (C := RX2) (T := TX2) (N := 7) hx hb ht inX2 hown hK hP 0 rfl rfl 6 (by decide) (ht _ wd_1_67) (fun _ h9 => h9) rfl dX2_setLiking_20 ?_
        refine lv_bipush (v := (8 : Int32)) hx hb dX2_setLiking_23 (by decide) ?_
        refine lv_iload_n hx hb dX2_setLiking_25 rfl (lv_at hl 1 rfl) ?_
        refine lv_imul hx hb dX2_setLiking_26 ?_
        refine lv_iload_n hx hb dX2_setLiking_27 rfl (lv_at hl 2 rfl) ?_
        refine lv_iadd hx hb dX2_setLiking_28 ?_
        refine lv_iload_n hx hb dX2_setLiking_29 rfl (lv_at hl 3 rfl) ?_
        obtain ⟨b_4, hf⟩ := bd_some hf
        refine va_iast hx hb hK hP hD hS 1 0 rfl rfl b_4 dX2_setLiking_30 (fun H locs hP hD hS => ?_)
        have hP : va_P (dC, dI) vwCl [(a_o, .inr (2, [.int o_persons, .int o_ring, .int o_highestTold, .ref a_o_bestPlace, .ref a_o_stepCost, .ref a_o_kind, .ref a_o_likings])), (a_o_likings, .inl (cI, 64, .inl (upd o_likings (((8 : Int32) * x1) + x2).toNatClampNeg x3)))] H := hP
        have hD : va_D A [(a_o, .inr (2, [.int o_persons, .int o_ring, .int o_highestTold, .ref a_o_bestPlace, .ref a_o_stepCost, .ref a_o_kind, .ref a_o_likings])), (a_o_likings, .inl (cI, 64, .inl (upd o_likings (((8 : Int32) * x1) + x2).toNatClampNeg x3)))] := hD
        refine lv_aload_n hx hb dX2_setLiking_31 rfl (lv_at hl 0 rfl) ?_
        refine lv_aload_n hx hb dX2_setLiking_32 rfl (lv_at hl 0 rfl) ?_
        refine va_get (ci := 2) (v := .int o_highestTold) (C := RX2) (T := TX2) (N := 7) hx hb ht inX2 hown hK hP 0 rfl rfl 2 (by decide) (ht _ wd_1_58) (fun _ h9 => h9) rfl dX2_setLiking_33 ?_
        refine lv_iload_n hx hb dX2_setLiking_36 rfl (lv_at hl 1 rfl) ?_
        refine lv_iload_n hx hb dX2_setLiking_37 rfl (lv_at hl 2 rfl) ?_
        refine va_mmax hx hb (hml.trans hl.1.symm) hown (ht _ wd_1_219) (ht _ wd_1_90) (ht _ wd_1_6) (ht _ wd_1_91) (Nat.le_of_ble_eq_true rfl) (Nat.le_of_ble_eq_true rfl) (Nat.zero_le _) (Nat.zero_le _) dX2_setLiking_38 ?_
        refine va_mmax hx hb (hml.trans hl.1.symm) hown (ht _ wd_1_219) (ht _ wd_1_90) (ht _ wd_1_6) (ht _ wd_1_91) (Nat.le_of_ble_eq_true rfl) (Nat.le_of_ble_eq_true rfl) (Nat.zero_le _) (Nat.zero_le _) dX2_setLiking_41 ?_
        refine va_put (ci := 2) (v := .int (if o_highestTold < (if x1 < x2 then x2 else x1) then (if x1 < x2 then x2 else x1) else o_highestTold)) (ty := .int) (C := RX2) (T := TX2) (N := 7) hx hb ht inX2 tyX2 tyX2_ok nmX2 hown hK hP hD hS 0 rfl rfl 2 (by decide) (ht _ wd_1_58) (fun _ h9 => h9) rfl (tyX2_ok 2 (by decide)) rfl rfl (Nat.le_of_ble_eq_true rfl) dX2_setLiking_44 (fun H locs hP hD hS => ?_)
        have hP : va_P (dC, dI) vwCl [(a_o, .inr (2, [.int o_persons, .int o_ring, .int (if o_highestTold < (if x1 < x2 then x2 else x1) then (if x1 < x2 then x2 else x1) else o_highestTold), .ref a_o_bestPlace, .ref a_o_stepCost, .ref a_o_kind, .ref a_o_likings])), (a_o_likings, .inl (cI, 64, .inl (upd o_likings (((8 : Int32) * x1) + x2).toNatClampNeg x3)))] H := hP
        have hD : va_D A [(a_o, .inr (2, [.int o_persons, .int o_ring, .int (if o_highestTold < (if x1 < x2 then x2 else x1) then (if x1 < x2 then x2 else x1) else o_highestTold), .ref a_o_bestPlace, .ref a_o_stepCost, .ref a_o_kind, .ref a_o_likings])), (a_o_likings, .inl (cI, 64, .inl (upd o_likings (((8 : Int32) * x1) + x2).toNatClampNeg x3)))] := hD
        refine lv_iconst (v := (1 : Int32)) hx hb dX2_setLiking_47 (by decide) ?_
        exact hret H locs ls 48 (1 : Int32) (if o_highestTold < (if x1 < x2 then x2 else x1) then (if x1 < x2 then x2 else x1) else o_highestTold) (upd o_likings (((8 : Int32) * x1) + x2).toNatClampNeg x3) hf (Or.inr rfl) dX2_setLiking_48 hP hD hS
      · have hf := ifp c_3 hf
        refine lv_iconst (v := (0 : Int32)) hx hb dX2_setLiking_17 (by decide) ?_
        exact hret H locs ls 18 (0 : Int32) o_highestTold o_likings hf (Or.inl rfl) dX2_setLiking_18 hP hD hS
def f_X2_setRing_b18 (t0 : Int32) (o_ring : Int32) : Option (Int32 × Int32) := zb t0 (some ((1 : Int32), t0))
def f_X2_setRing (x1 : Int32) (o_ring : Int32) : Option (Int32 × Int32) := if x1 ≤ (1 : Int32) then if x1 = (1 : Int32) then f_X2_setRing_b18 (1 : Int32) o_ring else f_X2_setRing_b18 (0 : Int32) o_ring else some ((0 : Int32), o_ring)
abbrev rm_X2_setRing : Room := { frames := 0, cells := 0, slots := 0, locals := 0 }
theorem kd_X2_setRing : yX2_setRing.cls ≠ "java/lang/invoke/MethodHandle" ∧ yX2_setRing.cls ≠ "java/lang/invoke/VarHandle" ∧ (parseMethodDescriptor yX2_setRing.desc).map (fun d => d.parameters.length) = some 1 := by decide +kernel
set_option maxHeartbeats 4000000 in
set_option maxRecDepth 100000 in
theorem c_X2_setRing (l : Launch) (dC : Nat → ClassId) (dI : Nat → Nat → Nat) (cI cJ cZ : ClassId) (a_o a_o_bestPlace a_o_stepCost a_o_kind a_o_likings : Nat) (sz : Nat) (o_persons : Int32) (o_ring : Int32) (o_highestTold : Int32) (x1 : Int32) (res : Int32 × Int32) (hf : f_X2_setRing x1 o_ring = some res) : kMi Unit l yX2_setRing cX2_setRing 2 (some .boolean) rm_X2_setRing [.ref a_o, .int x1] (dC, dI) (kT cI cJ cZ) sz [(a_o, .inr (2, [.int o_persons, .int o_ring, .int o_highestTold, .ref a_o_bestPlace, .ref a_o_stepCost, .ref a_o_kind, .ref a_o_likings]))] res.1 (fun _ => [(a_o, .inr (2, [.int o_persons, .int res.2, .int o_highestTold, .ref a_o_bestPlace, .ref a_o_stepCost, .ref a_o_kind, .ref a_o_likings]))]) := by
  refine Met.ofW (cc := cX2_setRing) (maxL := 2) (ret := (some .boolean)) (by decide) rfl ?_
  intro p e s m args below meth c s₁ B hml hv
  obtain ⟨rfl, hsz, hP, hK, hD0⟩ := hv
  have hx := B.exec
  have hb := B.bytes
  have hr := B.returns
  have ht : ∀ w ∈ lw_g, w.before ([.ref a_o, .int x1] : List Value).toArray s = true := fun w h => atoms_spec (ws := kws yX2_setRing cX2_setRing 2 (some .boolean)) B.pre w (List.mem_cons_of_mem _ h)
  have hown : s.vm.findClass RX2 = some m.cls := findClass_of_methodNamed B.named
  have hlocks := B.notSynchronized
  subst hsz
  have hD := hD0.self (sz := s.heap.size)
  generalize hAe : va_A [(a_o, .inr (2, [.int o_persons, .int o_ring, .int o_highestTold, .ref a_o_bestPlace, .ref a_o_stepCost, .ref a_o_kind, .ref a_o_likings]))] s.heap.size = A at hD ⊢
  have hA : ∀ q : Nat, s.heap.size ≤ q → A q := fun q h => by rw [← hAe]; exact Or.inr h
  have hS : va_S A s.heap s.heap [] := va_S.rf
  have hret : ∀ (H : Heap) (locs : List Loc) (ls : Array Slot) (pc : Nat) (v : Int32) (o0 : Int32), some (v, o0) = some res → (v = 0 ∨ v = 1) → decode cX2_setRing pc = .ok (.ireturn, 1) → va_P (dC, dI) vwCl [(a_o, .inr (2, [.int o_persons, .int o0, .int o_highestTold, .ref a_o_bestPlace, .ref a_o_stepCost, .ref a_o_kind, .ref a_o_likings]))] H → va_D A [(a_o, .inr (2, [.int o_persons, .int o0, .int o_highestTold, .ref a_o_bestPlace, .ref a_o_stepCost, .ref a_o_kind, .ref a_o_likings]))] → va_S A s.heap H locs → W p l e (headSpec (kws yX2_setRing cX2_setRing 2 (some .boolean)) rm_X2_setRing).room s m ([.ref a_o, .int x1] : List Value).toArray below meth c H locs 0 0 (MQ below (kQi Unit (dC, dI) A res.1 (fun _ => [(a_o, .inr (2, [.int o_persons, .int res.2, .int o_highestTold, .ref a_o_bestPlace, .ref a_o_stepCost, .ref a_o_kind, .ref a_o_likings]))])) ([.ref a_o, .int x1] : List Value).toArray s 0 0 A) (F0 m pc ls [.int v]) := by
    intro H locs ls pc v o0 he hz hd hP hD hS
    obtain rfl := Option.some.inj he
    exact krz hx hb hr hlocks () hz hP hD hS hd
  have hl := lv_entry ([.ref a_o, .int x1]) (n := 2) (Nat.le_of_ble_eq_true rfl)
  rw [lg_entry_eq]
  generalize (lg_sl ([.ref a_o, .int x1]) ++ List.replicate (2 - (lg_sl ([.ref a_o, .int x1])).length) Slot.unset).toArray = ls at hl ⊢
  have hl : lv_has ls 2 [(0, .ref a_o), (1, .int x1)] := hl
  generalize (MQ below _ ([.ref a_o, .int x1] : List Value).toArray s 0 0 A) = Q at hret ⊢
  generalize ([.ref a_o, .int x1] : List Value).toArray = args at ht hret ⊢
  have hP : va_P (dC, dI) vwCl [(a_o, .inr (2, [.int o_persons, .int o_ring, .int o_highestTold, .ref a_o_bestPlace, .ref a_o_stepCost, .ref a_o_kind, .ref a_o_likings]))] s.heap := hP
  unfold f_X2_setRing at hf
  have B18 : ∀ (t0 : Int32) (o_ring : Int32) (H : Heap) (locs : List Loc) (ls : Array Slot), f_X2_setRing_b18 t0 o_ring = some res → va_P (dC, dI) vwCl [(a_o, .inr (2, [.int o_persons, .int o_ring, .int o_highestTold, .ref a_o_bestPlace, .ref a_o_stepCost, .ref a_o_kind, .ref a_o_likings]))] H → va_D A [(a_o, .inr (2, [.int o_persons, .int o_ring, .int o_highestTold, .ref a_o_bestPlace, .ref a_o_stepCost, .ref a_o_kind, .ref a_o_likings]))] → va_S A s.heap H locs → lv_has ls 2 [] → W p l e (headSpec (kws yX2_setRing cX2_setRing 2 (some .boolean)) rm_X2_setRing).room s m args below meth c H locs 0 0 Q (F0 m 18 ls [.int t0, .ref a_o]) := by
    intro t0 o_ring H locs ls hf hP hD hS hl
    unfold f_X2_setRing_b18 at hf
    obtain ⟨z_1, hf⟩ := zb_some hf
    refine va_put (ci := 2) (v := .int t0) (ty := .boolean) (C := RX2) (T := TX2) (N := 7) hx hb ht inX2 tyX2 tyX2_ok nmX2 hown hK hP hD hS 0 rfl rfl 1 (by decide) (ht _ wd_1_57) (fun _ h9 => h9) rfl (tyX2_ok 1 (by decide)) (zb_nar z_1) (zb_fit z_1) (Nat.le_of_ble_eq_true rfl) dX2_setRing_18 (fun H locs hP hD hS => ?_)
    have hP : va_P (dC, dI) vwCl [(a_o, .inr (2, [.int o_persons, .int t0, .int o_highestTold, .ref a_o_bestPlace, .ref a_o_stepCost, .ref a_o_kind, .ref a_o_likings]))] H := hP
    have hD : va_D A [(a_o, .inr (2, [.int o_persons, .int t0, .int o_highestTold, .ref a_o_bestPlace, .ref a_o_stepCost, .ref a_o_kind, .ref a_o_likings]))] := hD
    refine lv_iconst (v := (1 : Int32)) hx hb dX2_setRing_21 (by decide) ?_
    exact hret H locs ls 22 (1 : Int32) t0 hf (Or.inr rfl) dX2_setRing_22 hP hD hS
  obtain ⟨H, hH⟩ : ∃ H, H = s.heap := ⟨_, rfl⟩
  obtain ⟨locs, hlo⟩ : ∃ L : List Loc, L = [] := ⟨_, rfl⟩
  rw [← hH] at hP
  have hS : va_S A s.heap H locs := by rw [hH, hlo]; exact hS
  rw [show W p l e (headSpec (kws yX2_setRing cX2_setRing 2 (some .boolean)) rm_X2_setRing).room s m args below meth c s.heap [] 0 0 Q (F0 m 0 ls []) = W p l e (headSpec (kws yX2_setRing cX2_setRing 2 (some .boolean)) rm_X2_setRing).room s m args below meth c H locs 0 0 Q (F0 m 0 ls []) from by rw [hH, hlo]]
  refine lv_iload_n hx hb dX2_setRing_0 rfl (lv_at hl 1 rfl) ?_
  refine lv_iconst (v := (1 : Int32)) hx hb dX2_setRing_1 (by decide) ?_
  refine lv_icmp_le (tgt := 7) hx hb dX2_setRing_2 (by decide) (fun c_2 => ?_) (fun c_2 => ?_)
  · have hf := ifp c_2 hf
    refine lv_aload_n hx hb dX2_setRing_7 rfl (lv_at hl 0 rfl) ?_
    refine lv_iload_n hx hb dX2_setRing_8 rfl (lv_at hl 1 rfl) ?_
    refine lv_iconst (v := (1 : Int32)) hx hb dX2_setRing_9 (by decide) ?_
    refine lv_icmp_ne (tgt := 17) hx hb dX2_setRing_10 (by decide) (fun c_3 => ?_) (fun c_3 => ?_)
    · have hf := ifn c_3 hf
      refine lv_iconst (v := (0 : Int32)) hx hb dX2_setRing_17 (by decide) ?_
      exact B18 (0 : Int32) o_ring H locs ls hf hP hD hS (lv_sub hl [] rfl)
    · have hf := ifp c_3 hf
      refine lv_iconst (v := (1 : Int32)) hx hb dX2_setRing_13 (by decide) ?_
      refine lv_goto (tgt := 18) hx hb dX2_setRing_14 (by decide) ?_
      exact B18 (1 : Int32) o_ring H locs ls hf hP hD hS (lv_sub hl [] rfl)
  · have hf := ifn c_2 hf
    refine lv_iconst (v := (0 : Int32)) hx hb dX2_setRing_5 (by decide) ?_
    exact hret H locs ls 6 (0 : Int32) o_ring hf (Or.inl rfl) dX2_setRing_6 hP hD hS
def f_X2_canBeLaid (o_persons : Int32) (o_highestTold : Int32) : Option (Int32) := if o_persons < (2 : Int32) then some (0 : Int32) else if o_persons ≤ o_highestTold then some (0 : Int32) else some (1 : Int32)
abbrev rm_X2_canBeLaid : Room := { frames := 0, cells := 0, slots := 0, locals := 0 }
theorem kd_X2_canBeLaid : yX2_canBeLaid.cls ≠ "java/lang/invoke/MethodHandle" ∧ yX2_canBeLaid.cls ≠ "java/lang/invoke/VarHandle" ∧ (parseMethodDescriptor yX2_canBeLaid.desc).map (fun d => d.parameters.length) = some 0 := by decide +kernel
set_option maxHeartbeats 4000000 in
set_option maxRecDepth 100000 in
theorem c_X2_canBeLaid (l : Launch) (dC : Nat → ClassId) (dI : Nat → Nat → Nat) (cI cJ cZ : ClassId) (a_o a_o_bestPlace a_o_stepCost a_o_kind a_o_likings : Nat) (sz : Nat) (o_persons : Int32) (o_ring : Int32) (o_highestTold : Int32) (res : Int32) (hf : f_X2_canBeLaid o_persons o_highestTold = some res) : kMi Unit l yX2_canBeLaid cX2_canBeLaid 1 (some .boolean) rm_X2_canBeLaid [.ref a_o] (dC, dI) (kT cI cJ cZ) sz [(a_o, .inr (2, [.int o_persons, .int o_ring, .int o_highestTold, .ref a_o_bestPlace, .ref a_o_stepCost, .ref a_o_kind, .ref a_o_likings]))] res (fun _ => [(a_o, .inr (2, [.int o_persons, .int o_ring, .int o_highestTold, .ref a_o_bestPlace, .ref a_o_stepCost, .ref a_o_kind, .ref a_o_likings]))]) := by
  refine Met.ofW (cc := cX2_canBeLaid) (maxL := 1) (ret := (some .boolean)) (by decide) rfl ?_
  intro p e s m args below meth c s₁ B hml hv
  obtain ⟨rfl, hsz, hP, hK, hD0⟩ := hv
  have hx := B.exec
  have hb := B.bytes
  have hr := B.returns
  have ht : ∀ w ∈ lw_g, w.before ([.ref a_o] : List Value).toArray s = true := fun w h => atoms_spec (ws := kws yX2_canBeLaid cX2_canBeLaid 1 (some .boolean)) B.pre w (List.mem_cons_of_mem _ h)
  have hown : s.vm.findClass RX2 = some m.cls := findClass_of_methodNamed B.named
  have hlocks := B.notSynchronized
  subst hsz
  have hD := hD0.self (sz := s.heap.size)
  generalize hAe : va_A [(a_o, .inr (2, [.int o_persons, .int o_ring, .int o_highestTold, .ref a_o_bestPlace, .ref a_o_stepCost, .ref a_o_kind, .ref a_o_likings]))] s.heap.size = A at hD ⊢
  have hA : ∀ q : Nat, s.heap.size ≤ q → A q := fun q h => by rw [← hAe]; exact Or.inr h
  have hS : va_S A s.heap s.heap [] := va_S.rf
  have hret : ∀ (H : Heap) (locs : List Loc) (ls : Array Slot) (pc : Nat) (v : Int32), some v = some res → (v = 0 ∨ v = 1) → decode cX2_canBeLaid pc = .ok (.ireturn, 1) → va_P (dC, dI) vwCl [(a_o, .inr (2, [.int o_persons, .int o_ring, .int o_highestTold, .ref a_o_bestPlace, .ref a_o_stepCost, .ref a_o_kind, .ref a_o_likings]))] H → va_D A [(a_o, .inr (2, [.int o_persons, .int o_ring, .int o_highestTold, .ref a_o_bestPlace, .ref a_o_stepCost, .ref a_o_kind, .ref a_o_likings]))] → va_S A s.heap H locs → W p l e (headSpec (kws yX2_canBeLaid cX2_canBeLaid 1 (some .boolean)) rm_X2_canBeLaid).room s m ([.ref a_o] : List Value).toArray below meth c H locs 0 0 (MQ below (kQi Unit (dC, dI) A res (fun _ => [(a_o, .inr (2, [.int o_persons, .int o_ring, .int o_highestTold, .ref a_o_bestPlace, .ref a_o_stepCost, .ref a_o_kind, .ref a_o_likings]))])) ([.ref a_o] : List Value).toArray s 0 0 A) (F0 m pc ls [.int v]) := by
    intro H locs ls pc v he hz hd hP hD hS
    obtain rfl := Option.some.inj he
    exact krz hx hb hr hlocks () hz hP hD hS hd
  have hl := lv_entry ([.ref a_o]) (n := 1) (Nat.le_of_ble_eq_true rfl)
  rw [lg_entry_eq]
  generalize (lg_sl ([.ref a_o]) ++ List.replicate (1 - (lg_sl ([.ref a_o])).length) Slot.unset).toArray = ls at hl ⊢
  have hl : lv_has ls 1 [(0, .ref a_o)] := hl
  generalize (MQ below _ ([.ref a_o] : List Value).toArray s 0 0 A) = Q at hret ⊢
  generalize ([.ref a_o] : List Value).toArray = args at ht hret ⊢
  have hP : va_P (dC, dI) vwCl [(a_o, .inr (2, [.int o_persons, .int o_ring, .int o_highestTold, .ref a_o_bestPlace, .ref a_o_stepCost, .ref a_o_kind, .ref a_o_likings]))] s.heap := hP
  unfold f_X2_canBeLaid at hf
  obtain ⟨H, hH⟩ : ∃ H, H = s.heap := ⟨_, rfl⟩
  obtain ⟨locs, hlo⟩ : ∃ L : List Loc, L = [] := ⟨_, rfl⟩
  rw [← hH] at hP
  have hS : va_S A s.heap H locs := by rw [hH, hlo]; exact hS
  rw [show W p l e (headSpec (kws yX2_canBeLaid cX2_canBeLaid 1 (some .boolean)) rm_X2_canBeLaid).room s m args below meth c s.heap [] 0 0 Q (F0 m 0 ls []) = W p l e (headSpec (kws yX2_canBeLaid cX2_canBeLaid 1 (some .boolean)) rm_X2_canBeLaid).room s m args below meth c H locs 0 0 Q (F0 m 0 ls []) from by rw [hH, hlo]]
  refine lv_aload_n hx hb dX2_canBeLaid_0 rfl (lv_at hl 0 rfl) ?_
  refine va_get (ci := 2) (v := .int o_persons) (C := RX2) (T := TX2) (N := 7) hx hb ht inX2 hown hK hP 0 rfl rfl 0 (by decide) (ht _ wd_1_54) (fun _ h9 => h9) rfl dX2_canBeLaid_1 ?_
  refine lv_iconst (v := (2 : Int32)) hx hb dX2_canBeLaid_4 (by decide) ?_
  refine lv_icmp_lt (tgt := 23) hx hb dX2_canBeLaid_5 (by decide) (fun c_1 => ?_) (fun c_1 => ?_)
  · have hf := ifp c_1 hf
    refine lv_iconst (v := (0 : Int32)) hx hb dX2_canBeLaid_23 (by decide) ?_
    exact hret H locs ls 24 (0 : Int32) hf (Or.inl rfl) dX2_canBeLaid_24 hP hD hS
  · have hf := ifn c_1 hf
    refine lv_aload_n hx hb dX2_canBeLaid_8 rfl (lv_at hl 0 rfl) ?_
    refine va_get (ci := 2) (v := .int o_highestTold) (C := RX2) (T := TX2) (N := 7) hx hb ht inX2 hown hK hP 0 rfl rfl 2 (by decide) (ht _ wd_1_58) (fun _ h9 => h9) rfl dX2_canBeLaid_9 ?_
    refine lv_aload_n hx hb dX2_canBeLaid_12 rfl (lv_at hl 0 rfl) ?_
    refine va_get (ci := 2) (v := .int o_persons) (C := RX2) (T := TX2) (N := 7) hx hb ht inX2 hown hK hP 0 rfl rfl 0 (by decide) (ht _ wd_1_54) (fun _ h9 => h9) rfl dX2_canBeLaid_13 ?_
    refine lv_icmp_ge (tgt := 23) hx hb dX2_canBeLaid_16 (by decide) (fun c_2 => ?_) (fun c_2 => ?_)
    · have hf := ifp c_2 hf
      refine lv_iconst (v := (0 : Int32)) hx hb dX2_canBeLaid_23 (by decide) ?_
      exact hret H locs ls 24 (0 : Int32) hf (Or.inl rfl) dX2_canBeLaid_24 hP hD hS
    · have hf := ifn c_2 hf
      refine lv_iconst (v := (1 : Int32)) hx hb dX2_canBeLaid_19 (by decide) ?_
      refine lv_goto (tgt := 24) hx hb dX2_canBeLaid_20 (by decide) ?_
      exact hret H locs ls 24 (1 : Int32) hf (Or.inr rfl) dX2_canBeLaid_24 hP hD hS
def f_X2_has (x1 : Int32) (o_persons : Int32) : Option (Int32) := if x1 < 0 then some (0 : Int32) else if o_persons ≤ x1 then some (0 : Int32) else some (1 : Int32)
abbrev rm_X2_has : Room := { frames := 0, cells := 0, slots := 0, locals := 0 }
theorem kd_X2_has : yX2_has.cls ≠ "java/lang/invoke/MethodHandle" ∧ yX2_has.cls ≠ "java/lang/invoke/VarHandle" ∧ (parseMethodDescriptor yX2_has.desc).map (fun d => d.parameters.length) = some 1 := by decide +kernel
set_option maxHeartbeats 4000000 in
set_option maxRecDepth 100000 in
theorem c_X2_has (l : Launch) (dC : Nat → ClassId) (dI : Nat → Nat → Nat) (cI cJ cZ : ClassId) (a_o a_o_bestPlace a_o_stepCost a_o_kind a_o_likings : Nat) (sz : Nat) (o_persons : Int32) (o_ring : Int32) (o_highestTold : Int32) (x1 : Int32) (res : Int32) (hf : f_X2_has x1 o_persons = some res) : kMi Unit l yX2_has cX2_has 2 (some .boolean) rm_X2_has [.ref a_o, .int x1] (dC, dI) (kT cI cJ cZ) sz [(a_o, .inr (2, [.int o_persons, .int o_ring, .int o_highestTold, .ref a_o_bestPlace, .ref a_o_stepCost, .ref a_o_kind, .ref a_o_likings]))] res (fun _ => [(a_o, .inr (2, [.int o_persons, .int o_ring, .int o_highestTold, .ref a_o_bestPlace, .ref a_o_stepCost, .ref a_o_kind, .ref a_o_likings]))]) := by
  refine Met.ofW (cc := cX2_has) (maxL := 2) (ret := (some .boolean)) (by decide) rfl ?_
  intro p e s m args below meth c s₁ B hml hv
  obtain ⟨rfl, hsz, hP, hK, hD0⟩ := hv
  have hx := B.exec
  have hb := B.bytes
  have hr := B.returns
  have ht : ∀ w ∈ lw_g, w.before ([.ref a_o, .int x1] : List Value).toArray s = true := fun w h => atoms_spec (ws := kws yX2_has cX2_has 2 (some .boolean)) B.pre w (List.mem_cons_of_mem _ h)
  have hown : s.vm.findClass RX2 = some m.cls := findClass_of_methodNamed B.named
  have hlocks := B.notSynchronized
  subst hsz
  have hD := hD0.self (sz := s.heap.size)
  generalize hAe : va_A [(a_o, .inr (2, [.int o_persons, .int o_ring, .int o_highestTold, .ref a_o_bestPlace, .ref a_o_stepCost, .ref a_o_kind, .ref a_o_likings]))] s.heap.size = A at hD ⊢
  have hA : ∀ q : Nat, s.heap.size ≤ q → A q := fun q h => by rw [← hAe]; exact Or.inr h
  have hS : va_S A s.heap s.heap [] := va_S.rf
  have hret : ∀ (H : Heap) (locs : List Loc) (ls : Array Slot) (pc : Nat) (v : Int32), some v = some res → (v = 0 ∨ v = 1) → decode cX2_has pc = .ok (.ireturn, 1) → va_P (dC, dI) vwCl [(a_o, .inr (2, [.int o_persons, .int o_ring, .int o_highestTold, .ref a_o_bestPlace, .ref a_o_stepCost, .ref a_o_kind, .ref a_o_likings]))] H → va_D A [(a_o, .inr (2, [.int o_persons, .int o_ring, .int o_highestTold, .ref a_o_bestPlace, .ref a_o_stepCost, .ref a_o_kind, .ref a_o_likings]))] → va_S A s.heap H locs → W p l e (headSpec (kws yX2_has cX2_has 2 (some .boolean)) rm_X2_has).room s m ([.ref a_o, .int x1] : List Value).toArray below meth c H locs 0 0 (MQ below (kQi Unit (dC, dI) A res (fun _ => [(a_o, .inr (2, [.int o_persons, .int o_ring, .int o_highestTold, .ref a_o_bestPlace, .ref a_o_stepCost, .ref a_o_kind, .ref a_o_likings]))])) ([.ref a_o, .int x1] : List Value).toArray s 0 0 A) (F0 m pc ls [.int v]) := by
    intro H locs ls pc v he hz hd hP hD hS
    obtain rfl := Option.some.inj he
    exact krz hx hb hr hlocks () hz hP hD hS hd
  have hl := lv_entry ([.ref a_o, .int x1]) (n := 2) (Nat.le_of_ble_eq_true rfl)
  rw [lg_entry_eq]
  generalize (lg_sl ([.ref a_o, .int x1]) ++ List.replicate (2 - (lg_sl ([.ref a_o, .int x1])).length) Slot.unset).toArray = ls at hl ⊢
  have hl : lv_has ls 2 [(0, .ref a_o), (1, .int x1)] := hl
  generalize (MQ below _ ([.ref a_o, .int x1] : List Value).toArray s 0 0 A) = Q at hret ⊢
  generalize ([.ref a_o, .int x1] : List Value).toArray = args at ht hret ⊢
  have hP : va_P (dC, dI) vwCl [(a_o, .inr (2, [.int o_persons, .int o_ring, .int o_highestTold, .ref a_o_bestPlace, .ref a_o_stepCost, .ref a_o_kind, .ref a_o_likings]))] s.heap := hP
  unfold f_X2_has at hf
  obtain ⟨H, hH⟩ : ∃ H, H = s.heap := ⟨_, rfl⟩
  obtain ⟨locs, hlo⟩ : ∃ L : List Loc, L = [] := ⟨_, rfl⟩
  rw [← hH] at hP
  have hS : va_S A s.heap H locs := by rw [hH, hlo]; exact hS
  rw [show W p l e (headSpec (kws yX2_has cX2_has 2 (some .boolean)) rm_X2_has).room s m args below meth c s.heap [] 0 0 Q (F0 m 0 ls []) = W p l e (headSpec (kws yX2_has cX2_has 2 (some .boolean)) rm_X2_has).room s m args below meth c H locs 0 0 Q (F0 m 0 ls []) from by rw [hH, hlo]]
  refine lv_iload_n hx hb dX2_has_0 rfl (lv_at hl 1 rfl) ?_
  refine lv_if_lt (tgt := 16) hx hb dX2_has_1 (by decide) (fun c_1 => ?_) (fun c_1 => ?_)
  · have hf := ifp c_1 hf
    refine lv_iconst (v := (0 : Int32)) hx hb dX2_has_16 (by decide) ?_
    exact hret H locs ls 17 (0 : Int32) hf (Or.inl rfl) dX2_has_17 hP hD hS
  · have hf := ifn c_1 hf
    refine lv_iload_n hx hb dX2_has_4 rfl (lv_at hl 1 rfl) ?_
    refine lv_aload_n hx hb dX2_has_5 rfl (lv_at hl 0 rfl) ?_
    refine va_get (ci := 2) (v := .int o_persons) (C := RX2) (T := TX2) (N := 7) hx hb ht inX2 hown hK hP 0 rfl rfl 0 (by decide) (ht _ wd_1_54) (fun _ h9 => h9) rfl dX2_has_6 ?_
    refine lv_icmp_ge (tgt := 16) hx hb dX2_has_9 (by decide) (fun c_2 => ?_) (fun c_2 => ?_)
    · have hf := ifp c_2 hf
      refine lv_iconst (v := (0 : Int32)) hx hb dX2_has_16 (by decide) ?_
      exact hret H locs ls 17 (0 : Int32) hf (Or.inl rfl) dX2_has_17 hP hD hS
    · have hf := ifn c_2 hf
      refine lv_iconst (v := (1 : Int32)) hx hb dX2_has_12 (by decide) ?_
      refine lv_goto (tgt := 17) hx hb dX2_has_13 (by decide) ?_
      exact hret H locs ls 17 (1 : Int32) hf (Or.inr rfl) dX2_has_17 hP hD hS
def f_X2_changeCount (o_persons : Int32) (o_ring : Int32) : Option (Int32) := if o_ring = 0 then some (o_persons - (1 : Int32)) else some o_persons
abbrev rm_X2_changeCount : Room := { frames := 0, cells := 0, slots := 0, locals := 0 }
theorem kd_X2_changeCount : yX2_changeCount.cls ≠ "java/lang/invoke/MethodHandle" ∧ yX2_changeCount.cls ≠ "java/lang/invoke/VarHandle" ∧ (parseMethodDescriptor yX2_changeCount.desc).map (fun d => d.parameters.length) = some 0 := by decide +kernel
set_option maxHeartbeats 4000000 in
set_option maxRecDepth 100000 in
theorem c_X2_changeCount (l : Launch) (dC : Nat → ClassId) (dI : Nat → Nat → Nat) (cI cJ cZ : ClassId) (a_o a_o_bestPlace a_o_stepCost a_o_kind a_o_likings : Nat) (sz : Nat) (o_persons : Int32) (o_ring : Int32) (o_highestTold : Int32) (res : Int32) (hf : f_X2_changeCount o_persons o_ring = some res) : kMi Unit l yX2_changeCount cX2_changeCount 1 (some .int) rm_X2_changeCount [.ref a_o] (dC, dI) (kT cI cJ cZ) sz [(a_o, .inr (2, [.int o_persons, .int o_ring, .int o_highestTold, .ref a_o_bestPlace, .ref a_o_stepCost, .ref a_o_kind, .ref a_o_likings]))] res (fun _ => [(a_o, .inr (2, [.int o_persons, .int o_ring, .int o_highestTold, .ref a_o_bestPlace, .ref a_o_stepCost, .ref a_o_kind, .ref a_o_likings]))]) := by
  refine Met.ofW (cc := cX2_changeCount) (maxL := 1) (ret := (some .int)) (by decide) rfl ?_
  intro p e s m args below meth c s₁ B hml hv
  obtain ⟨rfl, hsz, hP, hK, hD0⟩ := hv
  have hx := B.exec
  have hb := B.bytes
  have hr := B.returns
  have ht : ∀ w ∈ lw_g, w.before ([.ref a_o] : List Value).toArray s = true := fun w h => atoms_spec (ws := kws yX2_changeCount cX2_changeCount 1 (some .int)) B.pre w (List.mem_cons_of_mem _ h)
  have hown : s.vm.findClass RX2 = some m.cls := findClass_of_methodNamed B.named
  have hlocks := B.notSynchronized
  subst hsz
  have hD := hD0.self (sz := s.heap.size)
  generalize hAe : va_A [(a_o, .inr (2, [.int o_persons, .int o_ring, .int o_highestTold, .ref a_o_bestPlace, .ref a_o_stepCost, .ref a_o_kind, .ref a_o_likings]))] s.heap.size = A at hD ⊢
  have hA : ∀ q : Nat, s.heap.size ≤ q → A q := fun q h => by rw [← hAe]; exact Or.inr h
  have hS : va_S A s.heap s.heap [] := va_S.rf
  have hret : ∀ (H : Heap) (locs : List Loc) (ls : Array Slot) (pc : Nat) (v : Int32), some v = some res → decode cX2_changeCount pc = .ok (.ireturn, 1) → va_P (dC, dI) vwCl [(a_o, .inr (2, [.int o_persons, .int o_ring, .int o_highestTold, .ref a_o_bestPlace, .ref a_o_stepCost, .ref a_o_kind, .ref a_o_likings]))] H → va_D A [(a_o, .inr (2, [.int o_persons, .int o_ring, .int o_highestTold, .ref a_o_bestPlace, .ref a_o_stepCost, .ref a_o_kind, .ref a_o_likings]))] → va_S A s.heap H locs → W p l e (headSpec (kws yX2_changeCount cX2_changeCount 1 (some .int)) rm_X2_changeCount).room s m ([.ref a_o] : List Value).toArray below meth c H locs 0 0 (MQ below (kQi Unit (dC, dI) A res (fun _ => [(a_o, .inr (2, [.int o_persons, .int o_ring, .int o_highestTold, .ref a_o_bestPlace, .ref a_o_stepCost, .ref a_o_kind, .ref a_o_likings]))])) ([.ref a_o] : List Value).toArray s 0 0 A) (F0 m pc ls [.int v]) := by
    intro H locs ls pc v he hd hP hD hS
    obtain rfl := Option.some.inj he
    exact kri hx hb hr hlocks () hP hD hS hd
  have hl := lv_entry ([.ref a_o]) (n := 1) (Nat.le_of_ble_eq_true rfl)
  rw [lg_entry_eq]
  generalize (lg_sl ([.ref a_o]) ++ List.replicate (1 - (lg_sl ([.ref a_o])).length) Slot.unset).toArray = ls at hl ⊢
  have hl : lv_has ls 1 [(0, .ref a_o)] := hl
  generalize (MQ below _ ([.ref a_o] : List Value).toArray s 0 0 A) = Q at hret ⊢
  generalize ([.ref a_o] : List Value).toArray = args at ht hret ⊢
  have hP : va_P (dC, dI) vwCl [(a_o, .inr (2, [.int o_persons, .int o_ring, .int o_highestTold, .ref a_o_bestPlace, .ref a_o_stepCost, .ref a_o_kind, .ref a_o_likings]))] s.heap := hP
  unfold f_X2_changeCount at hf
  obtain ⟨H, hH⟩ : ∃ H, H = s.heap := ⟨_, rfl⟩
  obtain ⟨locs, hlo⟩ : ∃ L : List Loc, L = [] := ⟨_, rfl⟩
  rw [← hH] at hP
  have hS : va_S A s.heap H locs := by rw [hH, hlo]; exact hS
  rw [show W p l e (headSpec (kws yX2_changeCount cX2_changeCount 1 (some .int)) rm_X2_changeCount).room s m args below meth c s.heap [] 0 0 Q (F0 m 0 ls []) = W p l e (headSpec (kws yX2_changeCount cX2_changeCount 1 (some .int)) rm_X2_changeCount).room s m args below meth c H locs 0 0 Q (F0 m 0 ls []) from by rw [hH, hlo]]
  refine lv_aload_n hx hb dX2_changeCount_0 rfl (lv_at hl 0 rfl) ?_
  refine va_get (ci := 2) (v := .int o_ring) (C := RX2) (T := TX2) (N := 7) hx hb ht inX2 hown hK hP 0 rfl rfl 1 (by decide) (ht _ wd_1_57) (fun _ h9 => h9) rfl dX2_changeCount_1 ?_
  refine lv_if_eq (tgt := 14) hx hb dX2_changeCount_4 (by decide) (fun c_1 => ?_) (fun c_1 => ?_)
  · have hf := ifp c_1 hf
    refine lv_aload_n hx hb dX2_changeCount_14 rfl (lv_at hl 0 rfl) ?_
    refine va_get (ci := 2) (v := .int o_persons) (C := RX2) (T := TX2) (N := 7) hx hb ht inX2 hown hK hP 0 rfl rfl 0 (by decide) (ht _ wd_1_54) (fun _ h9 => h9) rfl dX2_changeCount_15 ?_
    refine lv_iconst (v := (1 : Int32)) hx hb dX2_changeCount_18 (by decide) ?_
    refine lv_isub hx hb dX2_changeCount_19 ?_
    exact hret H locs ls 20 (o_persons - (1 : Int32)) hf dX2_changeCount_20 hP hD hS
  · have hf := ifn c_1 hf
    refine lv_aload_n hx hb dX2_changeCount_7 rfl (lv_at hl 0 rfl) ?_
    refine va_get (ci := 2) (v := .int o_persons) (C := RX2) (T := TX2) (N := 7) hx hb ht inX2 hown hK hP 0 rfl rfl 0 (by decide) (ht _ wd_1_54) (fun _ h9 => h9) rfl dX2_changeCount_8 ?_
    refine lv_goto (tgt := 20) hx hb dX2_changeCount_11 (by decide) ?_
    exact hret H locs ls 20 o_persons hf dX2_changeCount_20 hP hD hS
def f_X2_hasChange (x1 : Int32) (o_persons : Int32) (o_ring : Int32) : Option (Int32) := if x1 < 0 then some (0 : Int32) else Option.bind (f_X2_changeCount o_persons o_ring) (fun u_2 => if u_2 ≤ x1 then some (0 : Int32) else some (1 : Int32))
abbrev rm_X2_hasChange : Room := { frames := 1, cells := 0, slots := 0, locals := 20 }
theorem kd_X2_hasChange : yX2_hasChange.cls ≠ "java/lang/invoke/MethodHandle" ∧ yX2_hasChange.cls ≠ "java/lang/invoke/VarHandle" ∧ (parseMethodDescriptor yX2_hasChange.desc).map (fun d => d.parameters.length) = some 1 := by decide +kernel
set_option maxHeartbeats 4000000 in
set_option maxRecDepth 100000 in
theorem c_X2_hasChange (l : Launch) (dC : Nat → ClassId) (dI : Nat → Nat → Nat) (cI cJ cZ : ClassId) (a_o a_o_bestPlace a_o_stepCost a_o_kind a_o_likings : Nat) (sz : Nat) (o_persons : Int32) (o_ring : Int32) (o_highestTold : Int32) (x1 : Int32) (res : Int32) (hf : f_X2_hasChange x1 o_persons o_ring = some res) : kMi Unit l yX2_hasChange cX2_hasChange 2 (some .boolean) rm_X2_hasChange [.ref a_o, .int x1] (dC, dI) (kT cI cJ cZ) sz [(a_o, .inr (2, [.int o_persons, .int o_ring, .int o_highestTold, .ref a_o_bestPlace, .ref a_o_stepCost, .ref a_o_kind, .ref a_o_likings]))] res (fun _ => [(a_o, .inr (2, [.int o_persons, .int o_ring, .int o_highestTold, .ref a_o_bestPlace, .ref a_o_stepCost, .ref a_o_kind, .ref a_o_likings]))]) := by
  refine Met.ofW (cc := cX2_hasChange) (maxL := 2) (ret := (some .boolean)) (by decide) rfl ?_
  intro p e s m args below meth c s₁ B hml hv
  obtain ⟨rfl, hsz, hP, hK, hD0⟩ := hv
  have hx := B.exec
  have hb := B.bytes
  have hr := B.returns
  have ht : ∀ w ∈ lw_g, w.before ([.ref a_o, .int x1] : List Value).toArray s = true := fun w h => atoms_spec (ws := kws yX2_hasChange cX2_hasChange 2 (some .boolean)) B.pre w (List.mem_cons_of_mem _ h)
  have hown : s.vm.findClass RX2 = some m.cls := findClass_of_methodNamed B.named
  have hlocks := B.notSynchronized
  subst hsz
  have hD := hD0.self (sz := s.heap.size)
  generalize hAe : va_A [(a_o, .inr (2, [.int o_persons, .int o_ring, .int o_highestTold, .ref a_o_bestPlace, .ref a_o_stepCost, .ref a_o_kind, .ref a_o_likings]))] s.heap.size = A at hD ⊢
  have hA : ∀ q : Nat, s.heap.size ≤ q → A q := fun q h => by rw [← hAe]; exact Or.inr h
  have hS : va_S A s.heap s.heap [] := va_S.rf
  have hret : ∀ (H : Heap) (locs : List Loc) (ls : Array Slot) (pc : Nat) (v : Int32), some v = some res → (v = 0 ∨ v = 1) → decode cX2_hasChange pc = .ok (.ireturn, 1) → va_P (dC, dI) vwCl [(a_o, .inr (2, [.int o_persons, .int o_ring, .int o_highestTold, .ref a_o_bestPlace, .ref a_o_stepCost, .ref a_o_kind, .ref a_o_likings]))] H → va_D A [(a_o, .inr (2, [.int o_persons, .int o_ring, .int o_highestTold, .ref a_o_bestPlace, .ref a_o_stepCost, .ref a_o_kind, .ref a_o_likings]))] → va_S A s.heap H locs → W p l e (headSpec (kws yX2_hasChange cX2_hasChange 2 (some .boolean)) rm_X2_hasChange).room s m ([.ref a_o, .int x1] : List Value).toArray below meth c H locs 0 0 (MQ below (kQi Unit (dC, dI) A res (fun _ => [(a_o, .inr (2, [.int o_persons, .int o_ring, .int o_highestTold, .ref a_o_bestPlace, .ref a_o_stepCost, .ref a_o_kind, .ref a_o_likings]))])) ([.ref a_o, .int x1] : List Value).toArray s 0 0 A) (F0 m pc ls [.int v]) := by
    intro H locs ls pc v he hz hd hP hD hS
    obtain rfl := Option.some.inj he
    exact krz hx hb hr hlocks () hz hP hD hS hd
  have hl := lv_entry ([.ref a_o, .int x1]) (n := 2) (Nat.le_of_ble_eq_true rfl)
  rw [lg_entry_eq]
  generalize (lg_sl ([.ref a_o, .int x1]) ++ List.replicate (2 - (lg_sl ([.ref a_o, .int x1])).length) Slot.unset).toArray = ls at hl ⊢
  have hl : lv_has ls 2 [(0, .ref a_o), (1, .int x1)] := hl
  generalize (MQ below _ ([.ref a_o, .int x1] : List Value).toArray s 0 0 A) = Q at hret ⊢
  generalize ([.ref a_o, .int x1] : List Value).toArray = args at ht hret ⊢
  have hP : va_P (dC, dI) vwCl [(a_o, .inr (2, [.int o_persons, .int o_ring, .int o_highestTold, .ref a_o_bestPlace, .ref a_o_stepCost, .ref a_o_kind, .ref a_o_likings]))] s.heap := hP
  unfold f_X2_hasChange at hf
  obtain ⟨H, hH⟩ : ∃ H, H = s.heap := ⟨_, rfl⟩
  obtain ⟨locs, hlo⟩ : ∃ L : List Loc, L = [] := ⟨_, rfl⟩
  rw [← hH] at hP
  have hS : va_S A s.heap H locs := by rw [hH, hlo]; exact hS
  rw [show W p l e (headSpec (kws yX2_hasChange cX2_hasChange 2 (some .boolean)) rm_X2_hasChange).room s m args below meth c s.heap [] 0 0 Q (F0 m 0 ls []) = W p l e (headSpec (kws yX2_hasChange cX2_hasChange 2 (some .boolean)) rm_X2_hasChange).room s m args below meth c H locs 0 0 Q (F0 m 0 ls []) from by rw [hH, hlo]]
  refine lv_iload_n hx hb dX2_hasChange_0 rfl (lv_at hl 1 rfl) ?_
  refine lv_if_lt (tgt := 16) hx hb dX2_hasChange_1 (by decide) (fun c_1 => ?_) (fun c_1 => ?_)
  · have hf := ifp c_1 hf
    refine lv_iconst (v := (0 : Int32)) hx hb dX2_hasChange_16 (by decide) ?_
    exact hret H locs ls 17 (0 : Int32) hf (Or.inl rfl) dX2_hasChange_17 hP hD hS
  · have hf := ifn c_1 hf
    refine lv_iload_n hx hb dX2_hasChange_4 rfl (lv_at hl 1 rfl) ?_
    refine lv_aload_n hx hb dX2_hasChange_5 rfl (lv_at hl 0 rfl) ?_
    obtain ⟨u_2, h_3, hf⟩ := obs hf
    refine kcVi (rest := [.int x1]) (wr := []) (w2 := fun _ => [(a_o, .inr (2, [.int o_persons, .int o_ring, .int o_highestTold, .ref a_o_bestPlace, .ref a_o_stepCost, .ref a_o_kind, .ref a_o_likings]))]) hx hb hml hown ht (c_X2_changeCount l dC dI cI cJ cZ a_o a_o_bestPlace a_o_stepCost a_o_kind a_o_likings H.size o_persons o_ring o_highestTold u_2 h_3) (kcw 0 ht wd_2_145 wd_1_3 wd_2_142 kd_X2_changeCount ⟨rfl, rfl⟩ ⟨Nat.le_of_ble_eq_true rfl, Nat.le_of_ble_eq_true rfl⟩) wd_2_143 wd_2_144 hK hP hD hS hA [0] [] [0] rfl rfl rfl rfl (by decide) rfl (fun _ => rfl) (ci := 2) rfl rfl rfl rfl hl.1 rfl (Nat.le_of_ble_eq_true rfl) dX2_hasChange_6 ⟨Nat.zero_le _, Nat.zero_le _⟩ (fun _ H locs hP hD hS => ?_)
    have hP : va_P (dC, dI) vwCl [(a_o, .inr (2, [.int o_persons, .int o_ring, .int o_highestTold, .ref a_o_bestPlace, .ref a_o_stepCost, .ref a_o_kind, .ref a_o_likings]))] H := hP
    have hD : va_D A [(a_o, .inr (2, [.int o_persons, .int o_ring, .int o_highestTold, .ref a_o_bestPlace, .ref a_o_stepCost, .ref a_o_kind, .ref a_o_likings]))] := hD
    refine lv_icmp_ge (tgt := 16) hx hb dX2_hasChange_9 (by decide) (fun c_4 => ?_) (fun c_4 => ?_)
    · have hf := ifp c_4 hf
      refine lv_iconst (v := (0 : Int32)) hx hb dX2_hasChange_16 (by decide) ?_
      exact hret H locs ls 17 (0 : Int32) hf (Or.inl rfl) dX2_hasChange_17 hP hD hS
    · have hf := ifn c_4 hf
      refine lv_iconst (v := (1 : Int32)) hx hb dX2_hasChange_12 (by decide) ?_
      refine lv_goto (tgt := 17) hx hb dX2_hasChange_13 (by decide) ?_
      exact hret H locs ls 17 (1 : Int32) hf (Or.inr rfl) dX2_hasChange_17 hP hD hS
def f_X2_hasRound_b33 (o_persons : Int32) (o_ring : Int32) (t0 : Int32) (t1 : Int32) : Option (Int32) := if t0 ≤ t1 then some (0 : Int32) else some (1 : Int32)
def f_X2_hasRound (x1 : Int32) (o_persons : Int32) (o_ring : Int32) : Option (Int32) := if o_persons < (3 : Int32) then some (0 : Int32) else if x1 < 0 then some (0 : Int32) else if o_ring = 0 then f_X2_hasRound_b33 o_persons o_ring (o_persons - (2 : Int32)) x1 else f_X2_hasRound_b33 o_persons o_ring o_persons x1
abbrev rm_X2_hasRound : Room := { frames := 0, cells := 0, slots := 0, locals := 0 }
theorem kd_X2_hasRound : yX2_hasRound.cls ≠ "java/lang/invoke/MethodHandle" ∧ yX2_hasRound.cls ≠ "java/lang/invoke/VarHandle" ∧ (parseMethodDescriptor yX2_hasRound.desc).map (fun d => d.parameters.length) = some 1 := by decide +kernel
set_option maxHeartbeats 4000000 in
set_option maxRecDepth 100000 in
theorem c_X2_hasRound (l : Launch) (dC : Nat → ClassId) (dI : Nat → Nat → Nat) (cI cJ cZ : ClassId) (a_o a_o_bestPlace a_o_stepCost a_o_kind a_o_likings : Nat) (sz : Nat) (o_persons : Int32) (o_ring : Int32) (o_highestTold : Int32) (x1 : Int32) (res : Int32) (hf : f_X2_hasRound x1 o_persons o_ring = some res) : kMi Unit l yX2_hasRound cX2_hasRound 2 (some .boolean) rm_X2_hasRound [.ref a_o, .int x1] (dC, dI) (kT cI cJ cZ) sz [(a_o, .inr (2, [.int o_persons, .int o_ring, .int o_highestTold, .ref a_o_bestPlace, .ref a_o_stepCost, .ref a_o_kind, .ref a_o_likings]))] res (fun _ => [(a_o, .inr (2, [.int o_persons, .int o_ring, .int o_highestTold, .ref a_o_bestPlace, .ref a_o_stepCost, .ref a_o_kind, .ref a_o_likings]))]) := by
  refine Met.ofW (cc := cX2_hasRound) (maxL := 2) (ret := (some .boolean)) (by decide) rfl ?_
  intro p e s m args below meth c s₁ B hml hv
  obtain ⟨rfl, hsz, hP, hK, hD0⟩ := hv
  have hx := B.exec
  have hb := B.bytes
  have hr := B.returns
  have ht : ∀ w ∈ lw_g, w.before ([.ref a_o, .int x1] : List Value).toArray s = true := fun w h => atoms_spec (ws := kws yX2_hasRound cX2_hasRound 2 (some .boolean)) B.pre w (List.mem_cons_of_mem _ h)
  have hown : s.vm.findClass RX2 = some m.cls := findClass_of_methodNamed B.named
  have hlocks := B.notSynchronized
  subst hsz
  have hD := hD0.self (sz := s.heap.size)
  generalize hAe : va_A [(a_o, .inr (2, [.int o_persons, .int o_ring, .int o_highestTold, .ref a_o_bestPlace, .ref a_o_stepCost, .ref a_o_kind, .ref a_o_likings]))] s.heap.size = A at hD ⊢
  have hA : ∀ q : Nat, s.heap.size ≤ q → A q := fun q h => by rw [← hAe]; exact Or.inr h
  have hS : va_S A s.heap s.heap [] := va_S.rf
  have hret : ∀ (H : Heap) (locs : List Loc) (ls : Array Slot) (pc : Nat) (v : Int32), some v = some res → (v = 0 ∨ v = 1) → decode cX2_hasRound pc = .ok (.ireturn, 1) → va_P (dC, dI) vwCl [(a_o, .inr (2, [.int o_persons, .int o_ring, .int o_highestTold, .ref a_o_bestPlace, .ref a_o_stepCost, .ref a_o_kind, .ref a_o_likings]))] H → va_D A [(a_o, .inr (2, [.int o_persons, .int o_ring, .int o_highestTold, .ref a_o_bestPlace, .ref a_o_stepCost, .ref a_o_kind, .ref a_o_likings]))] → va_S A s.heap H locs → W p l e (headSpec (kws yX2_hasRound cX2_hasRound 2 (some .boolean)) rm_X2_hasRound).room s m ([.ref a_o, .int x1] : List Value).toArray below meth c H locs 0 0 (MQ below (kQi Unit (dC, dI) A res (fun _ => [(a_o, .inr (2, [.int o_persons, .int o_ring, .int o_highestTold, .ref a_o_bestPlace, .ref a_o_stepCost, .ref a_o_kind, .ref a_o_likings]))])) ([.ref a_o, .int x1] : List Value).toArray s 0 0 A) (F0 m pc ls [.int v]) := by
    intro H locs ls pc v he hz hd hP hD hS
    obtain rfl := Option.some.inj he
    exact krz hx hb hr hlocks () hz hP hD hS hd
  have hl := lv_entry ([.ref a_o, .int x1]) (n := 2) (Nat.le_of_ble_eq_true rfl)
  rw [lg_entry_eq]
  generalize (lg_sl ([.ref a_o, .int x1]) ++ List.replicate (2 - (lg_sl ([.ref a_o, .int x1])).length) Slot.unset).toArray = ls at hl ⊢
  have hl : lv_has ls 2 [(0, .ref a_o), (1, .int x1)] := hl
  generalize (MQ below _ ([.ref a_o, .int x1] : List Value).toArray s 0 0 A) = Q at hret ⊢
  generalize ([.ref a_o, .int x1] : List Value).toArray = args at ht hret ⊢
  have hP : va_P (dC, dI) vwCl [(a_o, .inr (2, [.int o_persons, .int o_ring, .int o_highestTold, .ref a_o_bestPlace, .ref a_o_stepCost, .ref a_o_kind, .ref a_o_likings]))] s.heap := hP
  unfold f_X2_hasRound at hf
  have B33 : ∀ (t0 : Int32) (t1 : Int32) (H : Heap) (locs : List Loc) (ls : Array Slot), f_X2_hasRound_b33 o_persons o_ring t0 t1 = some res → va_P (dC, dI) vwCl [(a_o, .inr (2, [.int o_persons, .int o_ring, .int o_highestTold, .ref a_o_bestPlace, .ref a_o_stepCost, .ref a_o_kind, .ref a_o_likings]))] H → va_D A [(a_o, .inr (2, [.int o_persons, .int o_ring, .int o_highestTold, .ref a_o_bestPlace, .ref a_o_stepCost, .ref a_o_kind, .ref a_o_likings]))] → va_S A s.heap H locs → lv_has ls 2 [] → W p l e (headSpec (kws yX2_hasRound cX2_hasRound 2 (some .boolean)) rm_X2_hasRound).room s m args below meth c H locs 0 0 Q (F0 m 33 ls [.int t0, .int t1]) := by
    intro t0 t1 H locs ls hf hP hD hS hl
    unfold f_X2_hasRound_b33 at hf
    refine lv_icmp_ge (tgt := 40) hx hb dX2_hasRound_33 (by decide) (fun c_1 => ?_) (fun c_1 => ?_)
    · have hf := ifp c_1 hf
      refine lv_iconst (v := (0 : Int32)) hx hb dX2_hasRound_40 (by decide) ?_
      exact hret H locs ls 41 (0 : Int32) hf (Or.inl rfl) dX2_hasRound_41 hP hD hS
    · have hf := ifn c_1 hf
      refine lv_iconst (v := (1 : Int32)) hx hb dX2_hasRound_36 (by decide) ?_
      refine lv_goto (tgt := 41) hx hb dX2_hasRound_37 (by decide) ?_
      exact hret H locs ls 41 (1 : Int32) hf (Or.inr rfl) dX2_hasRound_41 hP hD hS
  obtain ⟨H, hH⟩ : ∃ H, H = s.heap := ⟨_, rfl⟩
  obtain ⟨locs, hlo⟩ : ∃ L : List Loc, L = [] := ⟨_, rfl⟩
  rw [← hH] at hP
  have hS : va_S A s.heap H locs := by rw [hH, hlo]; exact hS
  rw [show W p l e (headSpec (kws yX2_hasRound cX2_hasRound 2 (some .boolean)) rm_X2_hasRound).room s m args below meth c s.heap [] 0 0 Q (F0 m 0 ls []) = W p l e (headSpec (kws yX2_hasRound cX2_hasRound 2 (some .boolean)) rm_X2_hasRound).room s m args below meth c H locs 0 0 Q (F0 m 0 ls []) from by rw [hH, hlo]]
  refine lv_aload_n hx hb dX2_hasRound_0 rfl (lv_at hl 0 rfl) ?_
  refine va_get (ci := 2) (v := .int o_persons) (C := RX2) (T := TX2) (N := 7) hx hb ht inX2 hown hK hP 0 rfl rfl 0 (by decide) (ht _ wd_1_54) (fun _ h9 => h9) rfl dX2_hasRound_1 ?_
  refine lv_iconst (v := (3 : Int32)) hx hb dX2_hasRound_4 (by decide) ?_
  refine lv_icmp_lt (tgt := 40) hx hb dX2_hasRound_5 (by decide) (fun c_2 => ?_) (fun c_2 => ?_)
  · have hf := ifp c_2 hf
    refine lv_iconst (v := (0 : Int32)) hx hb dX2_hasRound_40 (by decide) ?_
    exact hret H locs ls 41 (0 : Int32) hf (Or.inl rfl) dX2_hasRound_41 hP hD hS
  · have hf := ifn c_2 hf
    refine lv_iload_n hx hb dX2_hasRound_8 rfl (lv_at hl 1 rfl) ?_
    refine lv_if_lt (tgt := 40) hx hb dX2_hasRound_9 (by decide) (fun c_3 => ?_) (fun c_3 => ?_)
    · have hf := ifp c_3 hf
      refine lv_iconst (v := (0 : Int32)) hx hb dX2_hasRound_40 (by decide) ?_
      exact hret H locs ls 41 (0 : Int32) hf (Or.inl rfl) dX2_hasRound_41 hP hD hS
    · have hf := ifn c_3 hf
      refine lv_iload_n hx hb dX2_hasRound_12 rfl (lv_at hl 1 rfl) ?_
      refine lv_aload_n hx hb dX2_hasRound_13 rfl (lv_at hl 0 rfl) ?_
      refine va_get (ci := 2) (v := .int o_ring) (C := RX2) (T := TX2) (N := 7) hx hb ht inX2 hown hK hP 0 rfl rfl 1 (by decide) (ht _ wd_1_57) (fun _ h9 => h9) rfl dX2_hasRound_14 ?_
      refine lv_if_eq (tgt := 27) hx hb dX2_hasRound_17 (by decide) (fun c_4 => ?_) (fun c_4 => ?_)
      · have hf := ifp c_4 hf
        refine lv_aload_n hx hb dX2_hasRound_27 rfl (lv_at hl 0 rfl) ?_
        refine va_get (ci := 2) (v := .int o_persons) (C := RX2) (T := TX2) (N := 7) hx hb ht inX2 hown hK hP 0 rfl rfl 0 (by decide) (ht _ wd_1_54) (fun _ h9 => h9) rfl dX2_hasRound_28 ?_
        refine lv_iconst (v := (2 : Int32)) hx hb dX2_hasRound_31 (by decide) ?_
        refine lv_isub hx hb dX2_hasRound_32 ?_
        exact B33 (o_persons - (2 : Int32)) x1 H locs ls hf hP hD hS (lv_sub hl [] rfl)
      · have hf := ifn c_4 hf
        refine lv_aload_n hx hb dX2_hasRound_20 rfl (lv_at hl 0 rfl) ?_
        refine va_get (ci := 2) (v := .int o_persons) (C := RX2) (T := TX2) (N := 7) hx hb ht inX2 hown hK hP 0 rfl rfl 0 (by decide) (ht _ wd_1_54) (fun _ h9 => h9) rfl dX2_hasRound_21 ?_
        refine lv_goto (tgt := 33) hx hb dX2_hasRound_24 (by decide) ?_
        exact B33 o_persons x1 H locs ls hf hP hD hS (lv_sub hl [] rfl)
def f_X2_after (x1 : Int32) (o_persons : Int32) : Option (Int32) := if o_persons ≤ (x1 + (1 : Int32)) then some (0 : Int32) else some (x1 + (1 : Int32))
abbrev rm_X2_after : Room := { frames := 0, cells := 0, slots := 0, locals := 0 }
theorem kd_X2_after : yX2_after.cls ≠ "java/lang/invoke/MethodHandle" ∧ yX2_after.cls ≠ "java/lang/invoke/VarHandle" ∧ (parseMethodDescriptor yX2_after.desc).map (fun d => d.parameters.length) = some 1 := by decide +kernel
set_option maxHeartbeats 4000000 in
set_option maxRecDepth 100000 in
theorem c_X2_after (l : Launch) (dC : Nat → ClassId) (dI : Nat → Nat → Nat) (cI cJ cZ : ClassId) (a_o a_o_bestPlace a_o_stepCost a_o_kind a_o_likings : Nat) (sz : Nat) (o_persons : Int32) (o_ring : Int32) (o_highestTold : Int32) (x1 : Int32) (res : Int32) (hf : f_X2_after x1 o_persons = some res) : kMi Unit l yX2_after cX2_after 2 (some .int) rm_X2_after [.ref a_o, .int x1] (dC, dI) (kT cI cJ cZ) sz [(a_o, .inr (2, [.int o_persons, .int o_ring, .int o_highestTold, .ref a_o_bestPlace, .ref a_o_stepCost, .ref a_o_kind, .ref a_o_likings]))] res (fun _ => [(a_o, .inr (2, [.int o_persons, .int o_ring, .int o_highestTold, .ref a_o_bestPlace, .ref a_o_stepCost, .ref a_o_kind, .ref a_o_likings]))]) := by
  refine Met.ofW (cc := cX2_after) (maxL := 2) (ret := (some .int)) (by decide) rfl ?_
  intro p e s m args below meth c s₁ B hml hv
  obtain ⟨rfl, hsz, hP, hK, hD0⟩ := hv
  have hx := B.exec
  have hb := B.bytes
  have hr := B.returns
  have ht : ∀ w ∈ lw_g, w.before ([.ref a_o, .int x1] : List Value).toArray s = true := fun w h => atoms_spec (ws := kws yX2_after cX2_after 2 (some .int)) B.pre w (List.mem_cons_of_mem _ h)
  have hown : s.vm.findClass RX2 = some m.cls := findClass_of_methodNamed B.named
  have hlocks := B.notSynchronized
  subst hsz
  have hD := hD0.self (sz := s.heap.size)
  generalize hAe : va_A [(a_o, .inr (2, [.int o_persons, .int o_ring, .int o_highestTold, .ref a_o_bestPlace, .ref a_o_stepCost, .ref a_o_kind, .ref a_o_likings]))] s.heap.size = A at hD ⊢
  have hA : ∀ q : Nat, s.heap.size ≤ q → A q := fun q h => by rw [← hAe]; exact Or.inr h
  have hS : va_S A s.heap s.heap [] := va_S.rf
  have hret : ∀ (H : Heap) (locs : List Loc) (ls : Array Slot) (pc : Nat) (v : Int32), some v = some res → decode cX2_after pc = .ok (.ireturn, 1) → va_P (dC, dI) vwCl [(a_o, .inr (2, [.int o_persons, .int o_ring, .int o_highestTold, .ref a_o_bestPlace, .ref a_o_stepCost, .ref a_o_kind, .ref a_o_likings]))] H → va_D A [(a_o, .inr (2, [.int o_persons, .int o_ring, .int o_highestTold, .ref a_o_bestPlace, .ref a_o_stepCost, .ref a_o_kind, .ref a_o_likings]))] → va_S A s.heap H locs → W p l e (headSpec (kws yX2_after cX2_after 2 (some .int)) rm_X2_after).room s m ([.ref a_o, .int x1] : List Value).toArray below meth c H locs 0 0 (MQ below (kQi Unit (dC, dI) A res (fun _ => [(a_o, .inr (2, [.int o_persons, .int o_ring, .int o_highestTold, .ref a_o_bestPlace, .ref a_o_stepCost, .ref a_o_kind, .ref a_o_likings]))])) ([.ref a_o, .int x1] : List Value).toArray s 0 0 A) (F0 m pc ls [.int v]) := by
    intro H locs ls pc v he hd hP hD hS
    obtain rfl := Option.some.inj he
    exact kri hx hb hr hlocks () hP hD hS hd
  have hl := lv_entry ([.ref a_o, .int x1]) (n := 2) (Nat.le_of_ble_eq_true rfl)
  rw [lg_entry_eq]
  generalize (lg_sl ([.ref a_o, .int x1]) ++ List.replicate (2 - (lg_sl ([.ref a_o, .int x1])).length) Slot.unset).toArray = ls at hl ⊢
  have hl : lv_has ls 2 [(0, .ref a_o), (1, .int x1)] := hl
  generalize (MQ below _ ([.ref a_o, .int x1] : List Value).toArray s 0 0 A) = Q at hret ⊢
  generalize ([.ref a_o, .int x1] : List Value).toArray = args at ht hret ⊢
  have hP : va_P (dC, dI) vwCl [(a_o, .inr (2, [.int o_persons, .int o_ring, .int o_highestTold, .ref a_o_bestPlace, .ref a_o_stepCost, .ref a_o_kind, .ref a_o_likings]))] s.heap := hP
  unfold f_X2_after at hf
  obtain ⟨H, hH⟩ : ∃ H, H = s.heap := ⟨_, rfl⟩
  obtain ⟨locs, hlo⟩ : ∃ L : List Loc, L = [] := ⟨_, rfl⟩
  rw [← hH] at hP
  have hS : va_S A s.heap H locs := by rw [hH, hlo]; exact hS
  rw [show W p l e (headSpec (kws yX2_after cX2_after 2 (some .int)) rm_X2_after).room s m args below meth c s.heap [] 0 0 Q (F0 m 0 ls []) = W p l e (headSpec (kws yX2_after cX2_after 2 (some .int)) rm_X2_after).room s m args below meth c H locs 0 0 Q (F0 m 0 ls []) from by rw [hH, hlo]]
  refine lv_iload_n hx hb dX2_after_0 rfl (lv_at hl 1 rfl) ?_
  refine lv_iconst (v := (1 : Int32)) hx hb dX2_after_1 (by decide) ?_
  refine lv_iadd hx hb dX2_after_2 ?_
  refine lv_aload_n hx hb dX2_after_3 rfl (lv_at hl 0 rfl) ?_
  refine va_get (ci := 2) (v := .int o_persons) (C := RX2) (T := TX2) (N := 7) hx hb ht inX2 hown hK hP 0 rfl rfl 0 (by decide) (ht _ wd_1_54) (fun _ h9 => h9) rfl dX2_after_4 ?_
  refine lv_icmp_ge (tgt := 16) hx hb dX2_after_7 (by decide) (fun c_1 => ?_) (fun c_1 => ?_)
  · have hf := ifp c_1 hf
    refine lv_iconst (v := (0 : Int32)) hx hb dX2_after_16 (by decide) ?_
    exact hret H locs ls 17 (0 : Int32) hf dX2_after_17 hP hD hS
  · have hf := ifn c_1 hf
    refine lv_iload_n hx hb dX2_after_10 rfl (lv_at hl 1 rfl) ?_
    refine lv_iconst (v := (1 : Int32)) hx hb dX2_after_11 (by decide) ?_
    refine lv_iadd hx hb dX2_after_12 ?_
    refine lv_goto (tgt := 17) hx hb dX2_after_13 (by decide) ?_
    exact hret H locs ls 17 (x1 + (1 : Int32)) hf dX2_after_17 hP hD hS
def f_X2_changed (x1 : Int32) (x2 : Int32) (o_persons : Int32) : Option (Int32) := Option.bind (f_X2_after x2 o_persons) (fun u_1 => Option.bind (f_X4_swapped x1 x2 u_1) (fun u_3 => some u_3))
abbrev rm_X2_changed : Room := { frames := 2, cells := 0, slots := 0, locals := 44 }
theorem kd_X2_changed : yX2_changed.cls ≠ "java/lang/invoke/MethodHandle" ∧ yX2_changed.cls ≠ "java/lang/invoke/VarHandle" ∧ (parseMethodDescriptor yX2_changed.desc).map (fun d => d.parameters.length) = some 2 := by decide +kernel
set_option maxHeartbeats 4000000 in
set_option maxRecDepth 100000 in
theorem c_X2_changed (l : Launch) (dC : Nat → ClassId) (dI : Nat → Nat → Nat) (cI cJ cZ : ClassId) (a_o a_o_bestPlace a_o_stepCost a_o_kind a_o_likings : Nat) (sz : Nat) (o_persons : Int32) (o_ring : Int32) (o_highestTold : Int32) (x1 : Int32) (x2 : Int32) (res : Int32) (hf : f_X2_changed x1 x2 o_persons = some res) : kMi Unit l yX2_changed cX2_changed 3 (some .int) rm_X2_changed [.ref a_o, .int x1, .int x2] (dC, dI) (kT cI cJ cZ) sz [(a_o, .inr (2, [.int o_persons, .int o_ring, .int o_highestTold, .ref a_o_bestPlace, .ref a_o_stepCost, .ref a_o_kind, .ref a_o_likings]))] res (fun _ => [(a_o, .inr (2, [.int o_persons, .int o_ring, .int o_highestTold, .ref a_o_bestPlace, .ref a_o_stepCost, .ref a_o_kind, .ref a_o_likings]))]) := by
  refine Met.ofW (cc := cX2_changed) (maxL := 3) (ret := (some .int)) (by decide) rfl ?_
  intro p e s m args below meth c s₁ B hml hv
  obtain ⟨rfl, hsz, hP, hK, hD0⟩ := hv
  have hx := B.exec
  have hb := B.bytes
  have hr := B.returns
  have ht : ∀ w ∈ lw_g, w.before ([.ref a_o, .int x1, .int x2] : List Value).toArray s = true := fun w h => atoms_spec (ws := kws yX2_changed cX2_changed 3 (some .int)) B.pre w (List.mem_cons_of_mem _ h)
  have hown : s.vm.findClass RX2 = some m.cls := findClass_of_methodNamed B.named
  have hlocks := B.notSynchronized
  subst hsz
  have hD := hD0.self (sz := s.heap.size)
  generalize hAe : va_A [(a_o, .inr (2, [.int o_persons, .int o_ring, .int o_highestTold, .ref a_o_bestPlace, .ref a_o_stepCost, .ref a_o_kind, .ref a_o_likings]))] s.heap.size = A at hD ⊢
  have hA : ∀ q : Nat, s.heap.size ≤ q → A q := fun q h => by rw [← hAe]; exact Or.inr h
  have hS : va_S A s.heap s.heap [] := va_S.rf
  have hret : ∀ (H : Heap) (locs : List Loc) (ls : Array Slot) (pc : Nat) (v : Int32), some v = some res → decode cX2_changed pc = .ok (.ireturn, 1) → va_P (dC, dI) vwCl [(a_o, .inr (2, [.int o_persons, .int o_ring, .int o_highestTold, .ref a_o_bestPlace, .ref a_o_stepCost, .ref a_o_kind, .ref a_o_likings]))] H → va_D A [(a_o, .inr (2, [.int o_persons, .int o_ring, .int o_highestTold, .ref a_o_bestPlace, .ref a_o_stepCost, .ref a_o_kind, .ref a_o_likings]))] → va_S A s.heap H locs → W p l e (headSpec (kws yX2_changed cX2_changed 3 (some .int)) rm_X2_changed).room s m ([.ref a_o, .int x1, .int x2] : List Value).toArray below meth c H locs 0 0 (MQ below (kQi Unit (dC, dI) A res (fun _ => [(a_o, .inr (2, [.int o_persons, .int o_ring, .int o_highestTold, .ref a_o_bestPlace, .ref a_o_stepCost, .ref a_o_kind, .ref a_o_likings]))])) ([.ref a_o, .int x1, .int x2] : List Value).toArray s 0 0 A) (F0 m pc ls [.int v]) := by
    intro H locs ls pc v he hd hP hD hS
    obtain rfl := Option.some.inj he
    exact kri hx hb hr hlocks () hP hD hS hd
  have hl := lv_entry ([.ref a_o, .int x1, .int x2]) (n := 3) (Nat.le_of_ble_eq_true rfl)
  rw [lg_entry_eq]
  generalize (lg_sl ([.ref a_o, .int x1, .int x2]) ++ List.replicate (3 - (lg_sl ([.ref a_o, .int x1, .int x2])).length) Slot.unset).toArray = ls at hl ⊢
  have hl : lv_has ls 3 [(0, .ref a_o), (1, .int x1), (2, .int x2)] := hl
  generalize (MQ below _ ([.ref a_o, .int x1, .int x2] : List Value).toArray s 0 0 A) = Q at hret ⊢
  generalize ([.ref a_o, .int x1, .int x2] : List Value).toArray = args at ht hret ⊢
  have hP : va_P (dC, dI) vwCl [(a_o, .inr (2, [.int o_persons, .int o_ring, .int o_highestTold, .ref a_o_bestPlace, .ref a_o_stepCost, .ref a_o_kind, .ref a_o_likings]))] s.heap := hP
  unfold f_X2_changed at hf
  obtain ⟨H, hH⟩ : ∃ H, H = s.heap := ⟨_, rfl⟩
  obtain ⟨locs, hlo⟩ : ∃ L : List Loc, L = [] := ⟨_, rfl⟩
  rw [← hH] at hP
  have hS : va_S A s.heap H locs := by rw [hH, hlo]; exact hS
  rw [show W p l e (headSpec (kws yX2_changed cX2_changed 3 (some .int)) rm_X2_changed).room s m args below meth c s.heap [] 0 0 Q (F0 m 0 ls []) = W p l e (headSpec (kws yX2_changed cX2_changed 3 (some .int)) rm_X2_changed).room s m args below meth c H locs 0 0 Q (F0 m 0 ls []) from by rw [hH, hlo]]
  refine lv_iload_n hx hb dX2_changed_0 rfl (lv_at hl 1 rfl) ?_
  refine lv_iload_n hx hb dX2_changed_1 rfl (lv_at hl 2 rfl) ?_
  refine lv_aload_n hx hb dX2_changed_2 rfl (lv_at hl 0 rfl) ?_
  refine lv_iload_n hx hb dX2_changed_3 rfl (lv_at hl 2 rfl) ?_
  obtain ⟨u_1, h_2, hf⟩ := obs hf
  refine kcVi (rest := [.int x2, .int x1]) (wr := []) (w2 := fun _ => [(a_o, .inr (2, [.int o_persons, .int o_ring, .int o_highestTold, .ref a_o_bestPlace, .ref a_o_stepCost, .ref a_o_kind, .ref a_o_likings]))]) hx hb hml hown ht (c_X2_after l dC dI cI cJ cZ a_o a_o_bestPlace a_o_stepCost a_o_kind a_o_likings H.size o_persons o_ring o_highestTold x2 u_1 h_2) (kcw 1 ht wd_2_119 wd_1_3 wd_2_116 kd_X2_after ⟨rfl, rfl⟩ ⟨Nat.le_of_ble_eq_true rfl, Nat.le_of_ble_eq_true rfl⟩) wd_2_117 wd_2_118 hK hP hD hS hA [0] [] [0] rfl rfl rfl rfl (by decide) rfl (fun _ => rfl) (ci := 2) rfl rfl rfl rfl hl.1 rfl (Nat.le_of_ble_eq_true rfl) dX2_changed_4 ⟨Nat.zero_le _, Nat.zero_le _⟩ (fun _ H locs hP hD hS => ?_)
  have hP : va_P (dC, dI) vwCl [(a_o, .inr (2, [.int o_persons, .int o_ring, .int o_highestTold, .ref a_o_bestPlace, .ref a_o_stepCost, .ref a_o_kind, .ref a_o_likings]))] H := hP
  have hD : va_D A [(a_o, .inr (2, [.int o_persons, .int o_ring, .int o_highestTold, .ref a_o_bestPlace, .ref a_o_stepCost, .ref a_o_kind, .ref a_o_likings]))] := hD
  obtain ⟨u_3, h_4, hf⟩ := obs hf
  refine kcSi (rest := []) (wr := [(a_o, .inr (2, [.int o_persons, .int o_ring, .int o_highestTold, .ref a_o_bestPlace, .ref a_o_stepCost, .ref a_o_kind, .ref a_o_likings]))]) (w2 := fun _ => [(a_o, .inr (2, [.int o_persons, .int o_ring, .int o_highestTold, .ref a_o_bestPlace, .ref a_o_stepCost, .ref a_o_kind, .ref a_o_likings]))]) hx hb hml hown ht (c_X4_swapped l dC dI cI cJ cZ H.size x1 x2 u_1 u_3 h_4) (kcw 3 ht wd_2_156 wd_1_12 wd_2_154 kd_X4_swapped ⟨rfl, rfl⟩ ⟨Nat.le_of_ble_eq_true rfl, Nat.le_of_ble_eq_true rfl⟩) wd_2_155 hK hP hD hS hA [] [0] [0] rfl rfl rfl rfl (by decide) rfl (fun _ => rfl) rfl hl.1 rfl (Nat.le_of_ble_eq_true rfl) dX2_changed_7 ⟨Nat.zero_le _, Nat.zero_le _⟩ (fun _ H locs hP hD hS => ?_)
  have hP : va_P (dC, dI) vwCl [(a_o, .inr (2, [.int o_persons, .int o_ring, .int o_highestTold, .ref a_o_bestPlace, .ref a_o_stepCost, .ref a_o_kind, .ref a_o_likings]))] H := hP
  have hD : va_D A [(a_o, .inr (2, [.int o_persons, .int o_ring, .int o_highestTold, .ref a_o_bestPlace, .ref a_o_stepCost, .ref a_o_kind, .ref a_o_likings]))] := hD
  exact hret H locs ls 10 u_3 hf dX2_changed_10 hP hD hS
def f_X2_turned (x1 : Int32) (x2 : Int32) (o_persons : Int32) : Option (Int32) := Option.bind (f_X2_after x2 o_persons) (fun u_1 => Option.bind (f_X2_after u_1 o_persons) (fun u_3 => Option.bind (f_X4_swapped x1 u_1 u_3) (fun u_5 => Option.bind (f_X4_swapped u_5 x2 u_1) (fun u_7 => some u_7))))
abbrev rm_X2_turned : Room := { frames := 2, cells := 0, slots := 0, locals := 44 }
theorem kd_X2_turned : yX2_turned.cls ≠ "java/lang/invoke/MethodHandle" ∧ yX2_turned.cls ≠ "java/lang/invoke/VarHandle" ∧ (parseMethodDescriptor yX2_turned.desc).map (fun d => d.parameters.length) = some 2 := by decide +kernel
set_option maxHeartbeats 4000000 in
set_option maxRecDepth 100000 in
theorem c_X2_turned (l : Launch) (dC : Nat → ClassId) (dI : Nat → Nat → Nat) (cI cJ cZ : ClassId) (a_o a_o_bestPlace a_o_stepCost a_o_kind a_o_likings : Nat) (sz : Nat) (o_persons : Int32) (o_ring : Int32) (o_highestTold : Int32) (x1 : Int32) (x2 : Int32) (res : Int32) (hf : f_X2_turned x1 x2 o_persons = some res) : kMi Unit l yX2_turned cX2_turned 4 (some .int) rm_X2_turned [.ref a_o, .int x1, .int x2] (dC, dI) (kT cI cJ cZ) sz [(a_o, .inr (2, [.int o_persons, .int o_ring, .int o_highestTold, .ref a_o_bestPlace, .ref a_o_stepCost, .ref a_o_kind, .ref a_o_likings]))] res (fun _ => [(a_o, .inr (2, [.int o_persons, .int o_ring, .int o_highestTold, .ref a_o_bestPlace, .ref a_o_stepCost, .ref a_o_kind, .ref a_o_likings]))]) := by
  refine Met.ofW (cc := cX2_turned) (maxL := 4) (ret := (some .int)) (by decide) rfl ?_
  intro p e s m args below meth c s₁ B hml hv
  obtain ⟨rfl, hsz, hP, hK, hD0⟩ := hv
  have hx := B.exec
  have hb := B.bytes
  have hr := B.returns
  have ht : ∀ w ∈ lw_g, w.before ([.ref a_o, .int x1, .int x2] : List Value).toArray s = true := fun w h => atoms_spec (ws := kws yX2_turned cX2_turned 4 (some .int)) B.pre w (List.mem_cons_of_mem _ h)
  have hown : s.vm.findClass RX2 = some m.cls := findClass_of_methodNamed B.named
  have hlocks := B.notSynchronized
  subst hsz
  have hD := hD0.self (sz := s.heap.size)
  generalize hAe : va_A [(a_o, .inr (2, [.int o_persons, .int o_ring, .int o_highestTold, .ref a_o_bestPlace, .ref a_o_stepCost, .ref a_o_kind, .ref a_o_likings]))] s.heap.size = A at hD ⊢
  have hA : ∀ q : Nat, s.heap.size ≤ q → A q := fun q h => by rw [← hAe]; exact Or.inr h
  have hS : va_S A s.heap s.heap [] := va_S.rf
  have hret : ∀ (H : Heap) (locs : List Loc) (ls : Array Slot) (pc : Nat) (v : Int32), some v = some res → decode cX2_turned pc = .ok (.ireturn, 1) → va_P (dC, dI) vwCl [(a_o, .inr (2, [.int o_persons, .int o_ring, .int o_highestTold, .ref a_o_bestPlace, .ref a_o_stepCost, .ref a_o_kind, .ref a_o_likings]))] H → va_D A [(a_o, .inr (2, [.int o_persons, .int o_ring, .int o_highestTold, .ref a_o_bestPlace, .ref a_o_stepCost, .ref a_o_kind, .ref a_o_likings]))] → va_S A s.heap H locs → W p l e (headSpec (kws yX2_turned cX2_turned 4 (some .int)) rm_X2_turned).room s m ([.ref a_o, .int x1, .int x2] : List Value).toArray below meth c H locs 0 0 (MQ below (kQi Unit (dC, dI) A res (fun _ => [(a_o, .inr (2, [.int o_persons, .int o_ring, .int o_highestTold, .ref a_o_bestPlace, .ref a_o_stepCost, .ref a_o_kind, .ref a_o_likings]))])) ([.ref a_o, .int x1, .int x2] : List Value).toArray s 0 0 A) (F0 m pc ls [.int v]) := by
    intro H locs ls pc v he hd hP hD hS
    obtain rfl := Option.some.inj he
    exact kri hx hb hr hlocks () hP hD hS hd
  have hl := lv_entry ([.ref a_o, .int x1, .int x2]) (n := 4) (Nat.le_of_ble_eq_true rfl)
  rw [lg_entry_eq]
  generalize (lg_sl ([.ref a_o, .int x1, .int x2]) ++ List.replicate (4 - (lg_sl ([.ref a_o, .int x1, .int x2])).length) Slot.unset).toArray = ls at hl ⊢
  have hl : lv_has ls 4 [(0, .ref a_o), (1, .int x1), (2, .int x2)] := hl
  generalize (MQ below _ ([.ref a_o, .int x1, .int x2] : List Value).toArray s 0 0 A) = Q at hret ⊢
  generalize ([.ref a_o, .int x1, .int x2] : List Value).toArray = args at ht hret ⊢
  have hP : va_P (dC, dI) vwCl [(a_o, .inr (2, [.int o_persons, .int o_ring, .int o_highestTold, .ref a_o_bestPlace, .ref a_o_stepCost, .ref a_o_kind, .ref a_o_likings]))] s.heap := hP
  unfold f_X2_turned at hf
  obtain ⟨H, hH⟩ : ∃ H, H = s.heap := ⟨_, rfl⟩
  obtain ⟨locs, hlo⟩ : ∃ L : List Loc, L = [] := ⟨_, rfl⟩
  rw [← hH] at hP
  have hS : va_S A s.heap H locs := by rw [hH, hlo]; exact hS
  rw [show W p l e (headSpec (kws yX2_turned cX2_turned 4 (some .int)) rm_X2_turned).room s m args below meth c s.heap [] 0 0 Q (F0 m 0 ls []) = W p l e (headSpec (kws yX2_turned cX2_turned 4 (some .int)) rm_X2_turned).room s m args below meth c H locs 0 0 Q (F0 m 0 ls []) from by rw [hH, hlo]]
  refine lv_aload_n hx hb dX2_turned_0 rfl (lv_at hl 0 rfl) ?_
  refine lv_iload_n hx hb dX2_turned_1 rfl (lv_at hl 2 rfl) ?_
  obtain ⟨u_1, h_2, hf⟩ := obs hf
  refine kcVi (rest := []) (wr := []) (w2 := fun _ => [(a_o, .inr (2, [.int o_persons, .int o_ring, .int o_highestTold, .ref a_o_bestPlace, .ref a_o_stepCost, .ref a_o_kind, .ref a_o_likings]))]) hx hb hml hown ht (c_X2_after l dC dI cI cJ cZ a_o a_o_bestPlace a_o_stepCost a_o_kind a_o_likings H.size o_persons o_ring o_highestTold x2 u_1 h_2) (kcw 1 ht wd_2_119 wd_1_3 wd_2_116 kd_X2_after ⟨rfl, rfl⟩ ⟨Nat.le_of_ble_eq_true rfl, Nat.le_of_ble_eq_true rfl⟩) wd_2_117 wd_2_118 hK hP hD hS hA [0] [] [0] rfl rfl rfl rfl (by decide) rfl (fun _ => rfl) (ci := 2) rfl rfl rfl rfl hl.1 rfl (Nat.le_of_ble_eq_true rfl) dX2_turned_2 ⟨Nat.zero_le _, Nat.zero_le _⟩ (fun _ H locs hP hD hS => ?_)
  have hP : va_P (dC, dI) vwCl [(a_o, .inr (2, [.int o_persons, .int o_ring, .int o_highestTold, .ref a_o_bestPlace, .ref a_o_stepCost, .ref a_o_kind, .ref a_o_likings]))] H := hP
  have hD : va_D A [(a_o, .inr (2, [.int o_persons, .int o_ring, .int o_highestTold, .ref a_o_bestPlace, .ref a_o_stepCost, .ref a_o_kind, .ref a_o_likings]))] := hD
  refine lv_istore_n (lv' := [(3, .int u_1), (0, .ref a_o), (1, .int x1), (2, .int x2)]) hx hb dX2_turned_5 rfl hl (by decide) rfl (fun ls hl => ?_)
  refine lv_iload_n hx hb dX2_turned_6 rfl (lv_at hl 2 rfl) ?_
  refine lv_iload_n hx hb dX2_turned_7 rfl (lv_at hl 0 rfl) ?_
  refine lv_aload_n hx hb dX2_turned_8 rfl (lv_at hl 1 rfl) ?_
  refine lv_iload_n hx hb dX2_turned_9 rfl (lv_at hl 0 rfl) ?_
  obtain ⟨u_3, h_4, hf⟩ := obs hf
  refine kcVi (rest := [.int u_1, .int x1]) (wr := []) (w2 := fun _ => [(a_o, .inr (2, [.int o_persons, .int o_ring, .int o_highestTold, .ref a_o_bestPlace, .ref a_o_stepCost, .ref a_o_kind, .ref a_o_likings]))]) hx hb hml hown ht (c_X2_after l dC dI cI cJ cZ a_o a_o_bestPlace a_o_stepCost a_o_kind a_o_likings H.size o_persons o_ring o_highestTold u_1 u_3 h_4) (kcw 1 ht wd_2_119 wd_1_3 wd_2_116 kd_X2_after ⟨rfl, rfl⟩ ⟨Nat.le_of_ble_eq_true rfl, Nat.le_of_ble_eq_true rfl⟩) wd_2_117 wd_2_118 hK hP hD hS hA [0] [] [0] rfl rfl rfl rfl (by decide) rfl (fun _ => rfl) (ci := 2) rfl rfl rfl rfl hl.1 rfl (Nat.le_of_ble_eq_true rfl) dX2_turned_10 ⟨Nat.zero_le _, Nat.zero_le _⟩ (fun _ H locs hP hD hS => ?_)
  have hP : va_P (dC, dI) vwCl [(a_o, .inr (2, [.int o_persons, .int o_ring, .int o_highestTold, .ref a_o_bestPlace, .ref a_o_stepCost, .ref a_o_kind, .ref a_o_likings]))] H := hP
  have hD : va_D A [(a_o, .inr (2, [.int o_persons, .int o_ring, .int o_highestTold, .ref a_o_bestPlace, .ref a_o_stepCost, .ref a_o_kind, .ref a_o_likings]))] := hD
  obtain ⟨u_5, h_6, hf⟩ := obs hf
  refine kcSi (rest := []) (wr := [(a_o, .inr (2, [.int o_persons, .int o_ring, .int o_highestTold, .ref a_o_bestPlace, .ref a_o_stepCost, .ref a_o_kind, .ref a_o_likings]))]) (w2 := fun _ => [(a_o, .inr (2, [.int o_persons, .int o_ring, .int o_highestTold, .ref a_o_bestPlace, .ref a_o_stepCost, .ref a_o_kind, .ref a_o_likings]))]) hx hb hml hown ht (c_X4_swapped l dC dI cI cJ cZ H.size x1 u_1 u_3 u_5 h_6) (kcw 3 ht wd_2_156 wd_1_12 wd_2_154 kd_X4_swapped ⟨rfl, rfl⟩ ⟨Nat.le_of_ble_eq_true rfl, Nat.le_of_ble_eq_true rfl⟩) wd_2_155 hK hP hD hS hA [] [0] [0] rfl rfl rfl rfl (by decide) rfl (fun _ => rfl) rfl hl.1 rfl (Nat.le_of_ble_eq_true rfl) dX2_turned_13 ⟨Nat.zero_le _, Nat.zero_le _⟩ (fun _ H locs hP hD hS => ?_)
  have hP : va_P (dC, dI) vwCl [(a_o, .inr (2, [.int o_persons, .int o_ring, .int o_highestTold, .ref a_o_bestPlace, .ref a_o_stepCost, .ref a_o_kind, .ref a_o_likings]))] H := hP
  have hD : va_D A [(a_o, .inr (2, [.int o_persons, .int o_ring, .int o_highestTold, .ref a_o_bestPlace, .ref a_o_stepCost, .ref a_o_kind, .ref a_o_likings]))] := hD
  refine lv_iload_n hx hb dX2_turned_16 rfl (lv_at hl 3 rfl) ?_
  refine lv_iload_n hx hb dX2_turned_17 rfl (lv_at hl 0 rfl) ?_
  obtain ⟨u_7, h_8, hf⟩ := obs hf
  refine kcSi (rest := []) (wr := [(a_o, .inr (2, [.int o_persons, .int o_ring, .int o_highestTold, .ref a_o_bestPlace, .ref a_o_stepCost, .ref a_o_kind, .ref a_o_likings]))]) (w2 := fun _ => [(a_o, .inr (2, [.int o_persons, .int o_ring, .int o_highestTold, .ref a_o_bestPlace, .ref a_o_stepCost, .ref a_o_kind, .ref a_o_likings]))]) hx hb hml hown ht (c_X4_swapped l dC dI cI cJ cZ H.size u_5 x2 u_1 u_7 h_8) (kcw 3 ht wd_2_156 wd_1_12 wd_2_154 kd_X4_swapped ⟨rfl, rfl⟩ ⟨Nat.le_of_ble_eq_true rfl, Nat.le_of_ble_eq_true rfl⟩) wd_2_155 hK hP hD hS hA [] [0] [0] rfl rfl rfl rfl (by decide) rfl (fun _ => rfl) rfl hl.1 rfl (Nat.le_of_ble_eq_true rfl) dX2_turned_18 ⟨Nat.zero_le _, Nat.zero_le _⟩ (fun _ H locs hP hD hS => ?_)
  have hP : va_P (dC, dI) vwCl [(a_o, .inr (2, [.int o_persons, .int o_ring, .int o_highestTold, .ref a_o_bestPlace, .ref a_o_stepCost, .ref a_o_kind, .ref a_o_likings]))] H := hP
  have hD : va_D A [(a_o, .inr (2, [.int o_persons, .int o_ring, .int o_highestTold, .ref a_o_bestPlace, .ref a_o_stepCost, .ref a_o_kind, .ref a_o_likings]))] := hD
  exact hret H locs ls 21 u_7 hf dX2_turned_21 hP hD hS
def f_X2_liking (x1 : Int32) (x2 : Int32) (o_likings : Nat → Int32) : Option (Int32) := bd (((8 : Int32) * x1) + x2) 64 (some (o_likings (((8 : Int32) * x1) + x2).toNatClampNeg))
abbrev rm_X2_liking : Room := { frames := 0, cells := 0, slots := 0, locals := 0 }
theorem kd_X2_liking : yX2_liking.cls ≠ "java/lang/invoke/MethodHandle" ∧ yX2_liking.cls ≠ "java/lang/invoke/VarHandle" ∧ (parseMethodDescriptor yX2_liking.desc).map (fun d => d.parameters.length) = some 2 := by decide +kernel
set_option maxHeartbeats 4000000 in
set_option maxRecDepth 100000 in
theorem c_X2_liking (l : Launch) (dC : Nat → ClassId) (dI : Nat → Nat → Nat) (cI cJ cZ : ClassId) (a_o a_o_bestPlace a_o_stepCost a_o_kind a_o_likings : Nat) (sz : Nat) (o_persons : Int32) (o_ring : Int32) (o_highestTold : Int32) (o_likings : Nat → Int32) (x1 : Int32) (x2 : Int32) (res : Int32) (hf : f_X2_liking x1 x2 o_likings = some res) : kMi Unit l yX2_liking cX2_liking 3 (some .int) rm_X2_liking [.ref a_o, .int x1, .int x2] (dC, dI) (kT cI cJ cZ) sz [(a_o, .inr (2, [.int o_persons, .int o_ring, .int o_highestTold, .ref a_o_bestPlace, .ref a_o_stepCost, .ref a_o_kind, .ref a_o_likings])), (a_o_likings, .inl (cI, 64, .inl o_likings))] res (fun _ => [(a_o, .inr (2, [.int o_persons, .int o_ring, .int o_highestTold, .ref a_o_bestPlace, .ref a_o_stepCost, .ref a_o_kind, .ref a_o_likings])), (a_o_likings, .inl (cI, 64, .inl o_likings))]) := by
  refine Met.ofW (cc := cX2_liking) (maxL := 3) (ret := (some .int)) (by decide) rfl ?_
  intro p e s m args below meth c s₁ B hml hv
  obtain ⟨rfl, hsz, hP, hK, hD0⟩ := hv
  have hx := B.exec
  have hb := B.bytes
  have hr := B.returns
  have ht : ∀ w ∈ lw_g, w.before ([.ref a_o, .int x1, .int x2] : List Value).toArray s = true := fun w h => atoms_spec (ws := kws yX2_liking cX2_liking 3 (some .int)) B.pre w (List.mem_cons_of_mem _ h)
  have hown : s.vm.findClass RX2 = some m.cls := findClass_of_methodNamed B.named
  have hlocks := B.notSynchronized
  subst hsz
  have hD := hD0.self (sz := s.heap.size)
  generalize hAe : va_A [(a_o, .inr (2, [.int o_persons, .int o_ring, .int o_highestTold, .ref a_o_bestPlace, .ref a_o_stepCost, .ref a_o_kind, .ref a_o_likings])), (a_o_likings, .inl (cI, 64, .inl o_likings))] s.heap.size = A at hD ⊢
  have hA : ∀ q : Nat, s.heap.size ≤ q → A q := fun q h => by rw [← hAe]; exact Or.inr h
  have hS : va_S A s.heap s.heap [] := va_S.rf
  have hret : ∀ (H : Heap) (locs : List Loc) (ls : Array Slot) (pc : Nat) (v : Int32), some v = some res → decode cX2_liking pc = .ok (.ireturn, 1) → va_P (dC, dI) vwCl [(a_o, .inr (2, [.int o_persons, .int o_ring, .int o_highestTold, .ref a_o_bestPlace, .ref a_o_stepCost, .ref a_o_kind, .ref a_o_likings])), (a_o_likings, .inl (cI, 64, .inl o_likings))] H → va_D A [(a_o, .inr (2, [.int o_persons, .int o_ring, .int o_highestTold, .ref a_o_bestPlace, .ref a_o_stepCost, .ref a_o_kind, .ref a_o_likings])), (a_o_likings, .inl (cI, 64, .inl o_likings))] → va_S A s.heap H locs → W p l e (headSpec (kws yX2_liking cX2_liking 3 (some .int)) rm_X2_liking).room s m ([.ref a_o, .int x1, .int x2] : List Value).toArray below meth c H locs 0 0 (MQ below (kQi Unit (dC, dI) A res (fun _ => [(a_o, .inr (2, [.int o_persons, .int o_ring, .int o_highestTold, .ref a_o_bestPlace, .ref a_o_stepCost, .ref a_o_kind, .ref a_o_likings])), (a_o_likings, .inl (cI, 64, .inl o_likings))])) ([.ref a_o, .int x1, .int x2] : List Value).toArray s 0 0 A) (F0 m pc ls [.int v]) := by
    intro H locs ls pc v he hd hP hD hS
    obtain rfl := Option.some.inj he
    exact kri hx hb hr hlocks () hP hD hS hd
  have hl := lv_entry ([.ref a_o, .int x1, .int x2]) (n := 3) (Nat.le_of_ble_eq_true rfl)
  rw [lg_entry_eq]
  generalize (lg_sl ([.ref a_o, .int x1, .int x2]) ++ List.replicate (3 - (lg_sl ([.ref a_o, .int x1, .int x2])).length) Slot.unset).toArray = ls at hl ⊢
  have hl : lv_has ls 3 [(0, .ref a_o), (1, .int x1), (2, .int x2)] := hl
  generalize (MQ below _ ([.ref a_o, .int x1, .int x2] : List Value).toArray s 0 0 A) = Q at hret ⊢
  generalize ([.ref a_o, .int x1, .int x2] : List Value).toArray = args at ht hret ⊢
  have hP : va_P (dC, dI) vwCl [(a_o, .inr (2, [.int o_persons, .int o_ring, .int o_highestTold, .ref a_o_bestPlace, .ref a_o_stepCost, .ref a_o_kind, .ref a_o_likings])), (a_o_likings, .inl (cI, 64, .inl o_likings))] s.heap := hP
  unfold f_X2_liking at hf
  obtain ⟨H, hH⟩ : ∃ H, H = s.heap := ⟨_, rfl⟩
  obtain ⟨locs, hlo⟩ : ∃ L : List Loc, L = [] := ⟨_, rfl⟩
  rw [← hH] at hP
  have hS : va_S A s.heap H locs := by rw [hH, hlo]; exact hS
  rw [show W p l e (headSpec (kws yX2_liking cX2_liking 3 (some .int)) rm_X2_liking).room s m args below meth c s.heap [] 0 0 Q (F0 m 0 ls []) = W p l e (headSpec (kws yX2_liking cX2_liking 3 (some .int)) rm_X2_liking).room s m args below meth c H locs 0 0 Q (F0 m 0 ls []) from by rw [hH, hlo]]
  refine lv_aload_n hx hb dX2_liking_0 rfl (lv_at hl 0 rfl) ?_
  refine va_get (ci := 2) (v := .ref a_o_likings) (C := RX2) (T := TX2) (N := 7) hx hb ht inX2 hown hK hP 0 rfl rfl 6 (by decide) (ht _ wd_1_67) (fun _ h9 => h9) rfl dX2_liking_1 ?_
  refine lv_bipush (v := (8 : Int32)) hx hb dX2_liking_4 (by decide) ?_
  refine lv_iload_n hx hb dX2_liking_6 rfl (lv_at hl 1 rfl) ?_
  refine lv_imul hx hb dX2_liking_7 ?_
  refine lv_iload_n hx hb dX2_liking_8 rfl (lv_at hl 2 rfl) ?_
  refine lv_iadd hx hb dX2_liking_9 ?_
  obtain ⟨b_1, hf⟩ := bd_some hf
  refine va_iald hx hb hK hP 1 0 rfl rfl b_1 dX2_liking_10 ?_
  exact hret H locs ls 11 (o_likings (((8 : Int32) * x1) + x2).toNatClampNeg) hf dX2_liking_11 hP hD hS
def f_X2_far_b14 (o_persons : Int32) (o_ring : Int32) (t0 : Int32) : Option (Int32) := if o_ring = 0 then some t0 else if t0 ≤ (o_persons - t0) then some t0 else some (o_persons - t0)
def f_X2_far (x1 : Int32) (x2 : Int32) (o_persons : Int32) (o_ring : Int32) : Option (Int32) := if x2 ≤ x1 then f_X2_far_b14 o_persons o_ring (x1 - x2) else f_X2_far_b14 o_persons o_ring (x2 - x1)
abbrev rm_X2_far : Room := { frames := 0, cells := 0, slots := 0, locals := 0 }
theorem kd_X2_far : yX2_far.cls ≠ "java/lang/invoke/MethodHandle" ∧ yX2_far.cls ≠ "java/lang/invoke/VarHandle" ∧ (parseMethodDescriptor yX2_far.desc).map (fun d => d.parameters.length) = some 2 := by decide +kernel
set_option maxHeartbeats 4000000 in
set_option maxRecDepth 100000 in
theorem c_X2_far (l : Launch) (dC : Nat → ClassId) (dI : Nat → Nat → Nat) (cI cJ cZ : ClassId) (a_o a_o_bestPlace a_o_stepCost a_o_kind a_o_likings : Nat) (sz : Nat) (o_persons : Int32) (o_ring : Int32) (o_highestTold : Int32) (x1 : Int32) (x2 : Int32) (res : Int32) (hf : f_X2_far x1 x2 o_persons o_ring = some res) : kMi Unit l yX2_far cX2_far 4 (some .int) rm_X2_far [.ref a_o, .int x1, .int x2] (dC, dI) (kT cI cJ cZ) sz [(a_o, .inr (2, [.int o_persons, .int o_ring, .int o_highestTold, .ref a_o_bestPlace, .ref a_o_stepCost, .ref a_o_kind, .ref a_o_likings]))] res (fun _ => [(a_o, .inr (2, [.int o_persons, .int o_ring, .int o_highestTold, .ref a_o_bestPlace, .ref a_o_stepCost, .ref a_o_kind, .ref a_o_likings]))]) := by
  refine Met.ofW (cc := cX2_far) (maxL := 4) (ret := (some .int)) (by decide) rfl ?_
  intro p e s m args below meth c s₁ B hml hv
  obtain ⟨rfl, hsz, hP, hK, hD0⟩ := hv
  have hx := B.exec
  have hb := B.bytes
  have hr := B.returns
  have ht : ∀ w ∈ lw_g, w.before ([.ref a_o, .int x1, .int x2] : List Value).toArray s = true := fun w h => atoms_spec (ws := kws yX2_far cX2_far 4 (some .int)) B.pre w (List.mem_cons_of_mem _ h)
  have hown : s.vm.findClass RX2 = some m.cls := findClass_of_methodNamed B.named
  have hlocks := B.notSynchronized
  subst hsz
  have hD := hD0.self (sz := s.heap.size)
  generalize hAe : va_A [(a_o, .inr (2, [.int o_persons, .int o_ring, .int o_highestTold, .ref a_o_bestPlace, .ref a_o_stepCost, .ref a_o_kind, .ref a_o_likings]))] s.heap.size = A at hD ⊢
  have hA : ∀ q : Nat, s.heap.size ≤ q → A q := fun q h => by rw [← hAe]; exact Or.inr h
  have hS : va_S A s.heap s.heap [] := va_S.rf
  have hret : ∀ (H : Heap) (locs : List Loc) (ls : Array Slot) (pc : Nat) (v : Int32), some v = some res → decode cX2_far pc = .ok (.ireturn, 1) → va_P (dC, dI) vwCl [(a_o, .inr (2, [.int o_persons, .int o_ring, .int o_highestTold, .ref a_o_bestPlace, .ref a_o_stepCost, .ref a_o_kind, .ref a_o_likings]))] H → va_D A [(a_o, .inr (2, [.int o_persons, .int o_ring, .int o_highestTold, .ref a_o_bestPlace, .ref a_o_stepCost, .ref a_o_kind, .ref a_o_likings]))] → va_S A s.heap H locs → W p l e (headSpec (kws yX2_far cX2_far 4 (some .int)) rm_X2_far).room s m ([.ref a_o, .int x1, .int x2] : List Value).toArray below meth c H locs 0 0 (MQ below (kQi Unit (dC, dI) A res (fun _ => [(a_o, .inr (2, [.int o_persons, .int o_ring, .int o_highestTold, .ref a_o_bestPlace, .ref a_o_stepCost, .ref a_o_kind, .ref a_o_likings]))])) ([.ref a_o, .int x1, .int x2] : List Value).toArray s 0 0 A) (F0 m pc ls [.int v]) := by
    intro H locs ls pc v he hd hP hD hS
    obtain rfl := Option.some.inj he
    exact kri hx hb hr hlocks () hP hD hS hd
  have hl := lv_entry ([.ref a_o, .int x1, .int x2]) (n := 4) (Nat.le_of_ble_eq_true rfl)
  rw [lg_entry_eq]
  generalize (lg_sl ([.ref a_o, .int x1, .int x2]) ++ List.replicate (4 - (lg_sl ([.ref a_o, .int x1, .int x2])).length) Slot.unset).toArray = ls at hl ⊢
  have hl : lv_has ls 4 [(0, .ref a_o), (1, .int x1), (2, .int x2)] := hl
  generalize (MQ below _ ([.ref a_o, .int x1, .int x2] : List Value).toArray s 0 0 A) = Q at hret ⊢
  generalize ([.ref a_o, .int x1, .int x2] : List Value).toArray = args at ht hret ⊢
  have hP : va_P (dC, dI) vwCl [(a_o, .inr (2, [.int o_persons, .int o_ring, .int o_highestTold, .ref a_o_bestPlace, .ref a_o_stepCost, .ref a_o_kind, .ref a_o_likings]))] s.heap := hP
  unfold f_X2_far at hf
  have B14 : ∀ (t0 : Int32) (H : Heap) (locs : List Loc) (ls : Array Slot), f_X2_far_b14 o_persons o_ring t0 = some res → va_P (dC, dI) vwCl [(a_o, .inr (2, [.int o_persons, .int o_ring, .int o_highestTold, .ref a_o_bestPlace, .ref a_o_stepCost, .ref a_o_kind, .ref a_o_likings]))] H → va_D A [(a_o, .inr (2, [.int o_persons, .int o_ring, .int o_highestTold, .ref a_o_bestPlace, .ref a_o_stepCost, .ref a_o_kind, .ref a_o_likings]))] → va_S A s.heap H locs → lv_has ls 4 [(0, .ref a_o)] → W p l e (headSpec (kws yX2_far cX2_far 4 (some .int)) rm_X2_far).room s m args below meth c H locs 0 0 Q (F0 m 14 ls [.int t0]) := by
    intro t0 H locs ls hf hP hD hS hl
    unfold f_X2_far_b14 at hf
    refine lv_istore_n (lv' := [(3, .int t0), (0, .ref a_o)]) hx hb dX2_far_14 rfl hl (by decide) rfl (fun ls hl => ?_)
    refine lv_aload_n hx hb dX2_far_15 rfl (lv_at hl 1 rfl) ?_
    refine va_get (ci := 2) (v := .int o_ring) (C := RX2) (T := TX2) (N := 7) hx hb ht inX2 hown hK hP 0 rfl rfl 1 (by decide) (ht _ wd_1_57) (fun _ h9 => h9) rfl dX2_far_16 ?_
    refine lv_if_eq (tgt := 41) hx hb dX2_far_19 (by decide) (fun c_1 => ?_) (fun c_1 => ?_)
    · have hf := ifp c_1 hf
      refine lv_iload_n hx hb dX2_far_41 rfl (lv_at hl 0 rfl) ?_
      exact hret H locs ls 42 t0 hf dX2_far_42 hP hD hS
    · have hf := ifn c_1 hf
      refine lv_aload_n hx hb dX2_far_22 rfl (lv_at hl 1 rfl) ?_
      refine va_get (ci := 2) (v := .int o_persons) (C := RX2) (T := TX2) (N := 7) hx hb ht inX2 hown hK hP 0 rfl rfl 0 (by decide) (ht _ wd_1_54) (fun _ h9 => h9) rfl dX2_far_23 ?_
      refine lv_iload_n hx hb dX2_far_26 rfl (lv_at hl 0 rfl) ?_
      refine lv_isub hx hb dX2_far_27 ?_
      refine lv_iload_n hx hb dX2_far_28 rfl (lv_at hl 0 rfl) ?_
      refine lv_icmp_ge (tgt := 41) hx hb dX2_far_29 (by decide) (fun c_2 => ?_) (fun c_2 => ?_)
      · have hf := ifp c_2 hf
        refine lv_iload_n hx hb dX2_far_41 rfl (lv_at hl 0 rfl) ?_
        exact hret H locs ls 42 t0 hf dX2_far_42 hP hD hS
      · have hf := ifn c_2 hf
        refine lv_aload_n hx hb dX2_far_32 rfl (lv_at hl 1 rfl) ?_
        refine va_get (ci := 2) (v := .int o_persons) (C := RX2) (T := TX2) (N := 7) hx hb ht inX2 hown hK hP 0 rfl rfl 0 (by decide) (ht _ wd_1_54) (fun _ h9 => h9) rfl dX2_far_33 ?_
        refine lv_iload_n hx hb dX2_far_36 rfl (lv_at hl 0 rfl) ?_
        refine lv_isub hx hb dX2_far_37 ?_
        refine lv_goto (tgt := 42) hx hb dX2_far_38 (by decide) ?_
        exact hret H locs ls 42 (o_persons - t0) hf dX2_far_42 hP hD hS
  obtain ⟨H, hH⟩ : ∃ H, H = s.heap := ⟨_, rfl⟩
  obtain ⟨locs, hlo⟩ : ∃ L : List Loc, L = [] := ⟨_, rfl⟩
  rw [← hH] at hP
  have hS : va_S A s.heap H locs := by rw [hH, hlo]; exact hS
  rw [show W p l e (headSpec (kws yX2_far cX2_far 4 (some .int)) rm_X2_far).room s m args below meth c s.heap [] 0 0 Q (F0 m 0 ls []) = W p l e (headSpec (kws yX2_far cX2_far 4 (some .int)) rm_X2_far).room s m args below meth c H locs 0 0 Q (F0 m 0 ls []) from by rw [hH, hlo]]
  refine lv_iload_n hx hb dX2_far_0 rfl (lv_at hl 1 rfl) ?_
  refine lv_iload_n hx hb dX2_far_1 rfl (lv_at hl 2 rfl) ?_
  refine lv_icmp_ge (tgt := 11) hx hb dX2_far_2 (by decide) (fun c_3 => ?_) (fun c_3 => ?_)
  · have hf := ifp c_3 hf
    refine lv_iload_n hx hb dX2_far_11 rfl (lv_at hl 1 rfl) ?_
    refine lv_iload_n hx hb dX2_far_12 rfl (lv_at hl 2 rfl) ?_
    refine lv_isub hx hb dX2_far_13 ?_
    exact B14 (x1 - x2) H locs ls hf hP hD hS (lv_sub hl [0] rfl)
  · have hf := ifn c_3 hf
    refine lv_iload_n hx hb dX2_far_5 rfl (lv_at hl 2 rfl) ?_
    refine lv_iload_n hx hb dX2_far_6 rfl (lv_at hl 1 rfl) ?_
    refine lv_isub hx hb dX2_far_7 ?_
    refine lv_goto (tgt := 14) hx hb dX2_far_8 (by decide) ?_
    exact B14 (x2 - x1) H locs ls hf hP hD hS (lv_sub hl [0] rfl)
def f_X2_worthAt_b107 (o_persons : Int32) (o_ring : Int32) (o_bestPlace : Nat → Int32) (o_stepCost : Nat → Int32) (o_likings : Nat → Int32) (x1 : Int32) (x3 : Int32) (x5 : Int32) (x6 : Int32) : Option (Int32) := Option.bind (f_X4_who x1 x5) (fun u_1 => Option.bind (f_X2_liking x3 u_1 o_likings) (fun u_3 => some (x6 + (u_3 - (50 : Int32)))))
def f_X2_worthAt_b84 (o_persons : Int32) (o_ring : Int32) (o_bestPlace : Nat → Int32) (o_stepCost : Nat → Int32) (o_likings : Nat → Int32) (x1 : Int32) (x2 : Int32) (x3 : Int32) (x4 : Int32) (x5 : Int32) (x6 : Int32) : Option (Int32) := if o_ring = 0 then if x5 ≤ x2 then some x6 else f_X2_worthAt_b107 o_persons o_ring o_bestPlace o_stepCost o_likings x1 x3 x5 x6 else if x5 = x4 then some x6 else f_X2_worthAt_b107 o_persons o_ring o_bestPlace o_stepCost o_likings x1 x3 x5 x6
def f_X2_worthAt_b65 (o_persons : Int32) (o_ring : Int32) (o_bestPlace : Nat → Int32) (o_stepCost : Nat → Int32) (o_likings : Nat → Int32) (x1 : Int32) (x2 : Int32) (x3 : Int32) (x4 : Int32) (x5 : Int32) (x6 : Int32) : Option (Int32) := Option.bind (f_X4_who x1 x4) (fun u_8 => Option.bind (f_X2_liking x3 u_8 o_likings) (fun u_10 => f_X2_worthAt_b84 o_persons o_ring o_bestPlace o_stepCost o_likings x1 x2 x3 x4 x5 (x6 + (u_10 - (50 : Int32)))))
def f_X2_worthAt_b22 (o_persons : Int32) (o_ring : Int32) (o_bestPlace : Nat → Int32) (o_stepCost : Nat → Int32) (o_likings : Nat → Int32) (x1 : Int32) (x2 : Int32) (x3 : Int32) (t0 : Int32) : Option (Int32) := Option.bind (f_X2_after x2 o_persons) (fun u_12 => bd x3 8 (bd x3 8 (Option.bind (f_X2_far x2 (o_bestPlace x3.toNatClampNeg) o_persons o_ring) (fun u_16 => if o_ring = 0 then if x2 ≤ 0 then f_X2_worthAt_b84 o_persons o_ring o_bestPlace o_stepCost o_likings x1 x2 x3 t0 u_12 ((100 : Int32) - ((o_stepCost x3.toNatClampNeg) * u_16)) else f_X2_worthAt_b65 o_persons o_ring o_bestPlace o_stepCost o_likings x1 x2 x3 t0 u_12 ((100 : Int32) - ((o_stepCost x3.toNatClampNeg) * u_16)) else f_X2_worthAt_b65 o_persons o_ring o_bestPlace o_stepCost o_likings x1 x2 x3 t0 u_12 ((100 : Int32) - ((o_stepCost x3.toNatClampNeg) * u_16))))))
def f_X2_worthAt (x1 : Int32) (x2 : Int32) (o_persons : Int32) (o_ring : Int32) (o_bestPlace : Nat → Int32) (o_stepCost : Nat → Int32) (o_likings : Nat → Int32) : Option (Int32) := Option.bind (f_X4_who x1 x2) (fun u_20 => if x2 ≤ 0 then f_X2_worthAt_b22 o_persons o_ring o_bestPlace o_stepCost o_likings x1 x2 u_20 (o_persons - (1 : Int32)) else f_X2_worthAt_b22 o_persons o_ring o_bestPlace o_stepCost o_likings x1 x2 u_20 (x2 - (1 : Int32)))
abbrev rm_X2_worthAt : Room := { frames := 1, cells := 0, slots := 0, locals := 23 }
theorem kd_X2_worthAt : yX2_worthAt.cls ≠ "java/lang/invoke/MethodHandle" ∧ yX2_worthAt.cls ≠ "java/lang/invoke/VarHandle" ∧ (parseMethodDescriptor yX2_worthAt.desc).map (fun d => d.parameters.length) = some 2 := by decide +kernel
set_option maxHeartbeats 4000000 in
set_option maxRecDepth 100000 in
theorem c_X2_worthAt (l : Launch) (dC : Nat → ClassId) (dI : Nat → Nat → Nat) (cI cJ cZ : ClassId) (a_o a_o_bestPlace a_o_stepCost a_o_kind a_o_likings : Nat) (sz : Nat) (o_persons : Int32) (o_ring : Int32) (o_highestTold : Int32) (o_bestPlace : Nat → Int32) (o_stepCost : Nat → Int32) (o_likings : Nat → Int32) (x1 : Int32) (x2 : Int32) (res : Int32) (hf : f_X2_worthAt x1 x2 o_persons o_ring o_bestPlace o_stepCost o_likings = some res) : kMi Unit l yX2_worthAt cX2_worthAt 7 (some .int) rm_X2_worthAt [.ref a_o, .int x1, .int x2] (dC, dI) (kT cI cJ cZ) sz [(a_o, .inr (2, [.int o_persons, .int o_ring, .int o_highestTold, .ref a_o_bestPlace, .ref a_o_stepCost, .ref a_o_kind, .ref a_o_likings])), (a_o_bestPlace, .inl (cI, 8, .inl o_bestPlace)), (a_o_stepCost, .inl (cI, 8, .inl o_stepCost)), (a_o_likings, .inl (cI, 64, .inl o_likings))] res (fun _ => [(a_o, .inr (2, [.int o_persons, .int o_ring, .int o_highestTold, .ref a_o_bestPlace, .ref a_o_stepCost, .ref a_o_kind, .ref a_o_likings])), (a_o_bestPlace, .inl (cI, 8, .inl o_bestPlace)), (a_o_stepCost, .inl (cI, 8, .inl o_stepCost)), (a_o_likings, .inl (cI, 64, .inl o_likings))]) := by
  refine Met.ofW (cc := cX2_worthAt) (maxL := 7) (ret := (some .int)) (by decide) rfl ?_
  intro p e s m args below meth c s₁ B hml hv
  obtain ⟨rfl, hsz, hP, hK, hD0⟩ := hv
  have hx := B.exec
  have hb := B.bytes
  have hr := B.returns
  have ht : ∀ w ∈ lw_g, w.before ([.ref a_o, .int x1, .int x2] : List Value).toArray s = true := fun w h => atoms_spec (ws := kws yX2_worthAt cX2_worthAt 7 (some .int)) B.pre w (List.mem_cons_of_mem _ h)
  have hown : s.vm.findClass RX2 = some m.cls := findClass_of_methodNamed B.named
  have hlocks := B.notSynchronized
  subst hsz
  have hD := hD0.self (sz := s.heap.size)
  generalize hAe : va_A [(a_o, .inr (2, [.int o_persons, .int o_ring, .int o_highestTold, .ref a_o_bestPlace, .ref a_o_stepCost, .ref a_o_kind, .ref a_o_likings])), (a_o_bestPlace, .inl (cI, 8, .inl o_bestPlace)), (a_o_stepCost, .inl (cI, 8, .inl o_stepCost)), (a_o_likings, .inl (cI, 64, .inl o_likings))] s.heap.size = A at hD ⊢
  have hA : ∀ q : Nat, s.heap.size ≤ q → A q := fun q h => by rw [← hAe]; exact Or.inr h
  have hS : va_S A s.heap s.heap [] := va_S.rf
  have hret : ∀ (H : Heap) (locs : List Loc) (ls : Array Slot) (pc : Nat) (v : Int32), some v = some res → decode cX2_worthAt pc = .ok (.ireturn, 1) → va_P (dC, dI) vwCl [(a_o, .inr (2, [.int o_persons, .int o_ring, .int o_highestTold, .ref a_o_bestPlace, .ref a_o_stepCost, .ref a_o_kind, .ref a_o_likings])), (a_o_bestPlace, .inl (cI, 8, .inl o_bestPlace)), (a_o_stepCost, .inl (cI, 8, .inl o_stepCost)), (a_o_likings, .inl (cI, 64, .inl o_likings))] H → va_D A [(a_o, .inr (2, [.int o_persons, .int o_ring, .int o_highestTold, .ref a_o_bestPlace, .ref a_o_stepCost, .ref a_o_kind, .ref a_o_likings])), (a_o_bestPlace, .inl (cI, 8, .inl o_bestPlace)), (a_o_stepCost, .inl (cI, 8, .inl o_stepCost)), (a_o_likings, .inl (cI, 64, .inl o_likings))] → va_S A s.heap H locs → W p l e (headSpec (kws yX2_worthAt cX2_worthAt 7 (some .int)) rm_X2_worthAt).room s m ([.ref a_o, .int x1, .int x2] : List Value).toArray below meth c H locs 0 0 (MQ below (kQi Unit (dC, dI) A res (fun _ => [(a_o, .inr (2, [.int o_persons, .int o_ring, .int o_highestTold, .ref a_o_bestPlace, .ref a_o_stepCost, .ref a_o_kind, .ref a_o_likings])), (a_o_bestPlace, .inl (cI, 8, .inl o_bestPlace)), (a_o_stepCost, .inl (cI, 8, .inl o_stepCost)), (a_o_likings, .inl (cI, 64, .inl o_likings))])) ([.ref a_o, .int x1, .int x2] : List Value).toArray s 0 0 A) (F0 m pc ls [.int v]) := by
    intro H locs ls pc v he hd hP hD hS
    obtain rfl := Option.some.inj he
    exact kri hx hb hr hlocks () hP hD hS hd
  have hl := lv_entry ([.ref a_o, .int x1, .int x2]) (n := 7) (Nat.le_of_ble_eq_true rfl)
  rw [lg_entry_eq]
  generalize (lg_sl ([.ref a_o, .int x1, .int x2]) ++ List.replicate (7 - (lg_sl ([.ref a_o, .int x1, .int x2])).length) Slot.unset).toArray = ls at hl ⊢
  have hl : lv_has ls 7 [(0, .ref a_o), (1, .int x1), (2, .int x2)] := hl
  generalize (MQ below _ ([.ref a_o, .int x1, .int x2] : List Value).toArray s 0 0 A) = Q at hret ⊢
  generalize ([.ref a_o, .int x1, .int x2] : List Value).toArray = args at ht hret ⊢
  have hP : va_P (dC, dI) vwCl [(a_o, .inr (2, [.int o_persons, .int o_ring, .int o_highestTold, .ref a_o_bestPlace, .ref a_o_stepCost, .ref a_o_kind, .ref a_o_likings])), (a_o_bestPlace, .inl (cI, 8, .inl o_bestPlace)), (a_o_stepCost, .inl (cI, 8, .inl o_stepCost)), (a_o_likings, .inl (cI, 64, .inl o_likings))] s.heap := hP
  unfold f_X2_worthAt at hf
  have B107 : ∀ (x1 : Int32) (x3 : Int32) (x5 : Int32) (x6 : Int32) (H : Heap) (locs : List Loc) (ls : Array Slot), f_X2_worthAt_b107 o_persons o_ring o_bestPlace o_stepCost o_likings x1 x3 x5 x6 = some res → va_P (dC, dI) vwCl [(a_o, .inr (2, [.int o_persons, .int o_ring, .int o_highestTold, .ref a_o_bestPlace, .ref a_o_stepCost, .ref a_o_kind, .ref a_o_likings])), (a_o_bestPlace, .inl (cI, 8, .inl o_bestPlace)), (a_o_stepCost, .inl (cI, 8, .inl o_stepCost)), (a_o_likings, .inl (cI, 64, .inl o_likings))] H → va_D A [(a_o, .inr (2, [.int o_persons, .int o_ring, .int o_highestTold, .ref a_o_bestPlace, .ref a_o_stepCost, .ref a_o_kind, .ref a_o_likings])), (a_o_bestPlace, .inl (cI, 8, .inl o_bestPlace)), (a_o_stepCost, .inl (cI, 8, .inl o_stepCost)), (a_o_likings, .inl (cI, 64, .inl o_likings))] → va_S A s.heap H locs → lv_has ls 7 [(0, .ref a_o), (1, .int x1), (3, .int x3), (5, .int x5), (6, .int x6)] → W p l e (headSpec (kws yX2_worthAt cX2_worthAt 7 (some .int)) rm_X2_worthAt).room s m args below meth c H locs 0 0 Q (F0 m 107 ls []) := by
    intro x1 x3 x5 x6 H locs ls hf hP hD hS hl
    unfold f_X2_worthAt_b107 at hf
    refine lv_iload hx hb dX2_worthAt_107 (lv_at hl 4 rfl) ?_
    refine lv_aload_n hx hb dX2_worthAt_109 rfl (lv_at hl 0 rfl) ?_
    refine lv_iload_n hx hb dX2_worthAt_110 rfl (lv_at hl 2 rfl) ?_
    refine lv_iload_n hx hb dX2_worthAt_111 rfl (lv_at hl 1 rfl) ?_
    refine lv_iload hx hb dX2_worthAt_112 (lv_at hl 3 rfl) ?_
    obtain ⟨u_1, h_2, hf⟩ := obs hf
    refine kcSi (rest := [.int x3, .ref a_o, .int x6]) (wr := [(a_o, .inr (2, [.int o_persons, .int o_ring, .int o_highestTold, .ref a_o_bestPlace, .ref a_o_stepCost, .ref a_o_kind, .ref a_o_likings])), (a_o_bestPlace, .inl (cI, 8, .inl o_bestPlace)), (a_o_stepCost, .inl (cI, 8, .inl o_stepCost)), (a_o_likings, .inl (cI, 64, .inl o_likings))]) (w2 := fun _ => [(a_o, .inr (2, [.int o_persons, .int o_ring, .int o_highestTold, .ref a_o_bestPlace, .ref a_o_stepCost, .ref a_o_kind, .ref a_o_likings])), (a_o_bestPlace, .inl (cI, 8, .inl o_bestPlace)), (a_o_stepCost, .inl (cI, 8, .inl o_stepCost)), (a_o_likings, .inl (cI, 64, .inl o_likings))]) hx hb hml hown ht (c_X4_who l dC dI cI cJ cZ H.size x1 x5 u_1 h_2) (kcw 2 ht wd_2_93 wd_1_12 wd_2_115 kd_X4_who ⟨rfl, rfl⟩ ⟨Nat.le_of_ble_eq_true rfl, Nat.le_of_ble_eq_true rfl⟩) wd_2_92 hK hP hD hS hA [] [0, 1, 2, 3] [0, 1, 2, 3] rfl rfl rfl rfl (by decide) rfl (fun _ => rfl) rfl hl.1 rfl (Nat.le_of_ble_eq_true rfl) dX2_worthAt_114 ⟨Nat.zero_le _, Nat.zero_le _⟩ (fun _ H locs hP hD hS => ?_)
    have hP : va_P (dC, dI) vwCl [(a_o, .inr (2, [.int o_persons, .int o_ring, .int o_highestTold, .ref a_o_bestPlace, .ref a_o_stepCost, .ref a_o_kind, .ref a_o_likings])), (a_o_bestPlace, .inl (cI, 8, .inl o_bestPlace)), (a_o_stepCost, .inl (cI, 8, .inl o_stepCost)), (a_o_likings, .inl (cI, 64, .inl o_likings))] H := hP
    have hD : va_D A [(a_o, .inr (2, [.int o_persons, .int o_ring, .int o_highestTold, .ref a_o_bestPlace, .ref a_o_stepCost, .ref a_o_kind, .ref a_o_likings])), (a_o_bestPlace, .inl (cI, 8, .inl o_bestPlace)), (a_o_stepCost, .inl (cI, 8, .inl o_stepCost)), (a_o_likings, .inl (cI, 64, .inl o_likings))] := hD
    obtain ⟨u_3, h_4, hf⟩ := obs hf
    refine kcVi (rest := [.int x6]) (wr := [(a_o_bestPlace, .inl (cI, 8, .inl o_bestPlace)), (a_o_stepCost, .inl (cI, 8, .inl o_stepCost))]) (w2 := fun _ => [(a_o, .inr (2, [.int o_persons, .int o_ring, .int o_highestTold, .ref a_o_bestPlace, .ref a_o_stepCost, .ref a_o_kind, .ref a_o_likings])), (a_o_bestPlace, .inl (cI, 8, .inl o_bestPlace)), (a_o_stepCost, .inl (cI, 8, .inl o_stepCost)), (a_o_likings, .inl (cI, 64, .inl o_likings))]) hx hb hml hown ht (c_X2_liking l dC dI cI cJ cZ a_o a_o_bestPlace a_o_stepCost a_o_kind a_o_likings H.size o_persons o_ring o_highestTold o_likings x3 u_1 u_3 h_4) (kcw 2 ht wd_2_101 wd_1_3 wd_2_124 kd_X2_liking ⟨rfl, rfl⟩ ⟨Nat.le_of_ble_eq_true rfl, Nat.le_of_ble_eq_true rfl⟩) wd_2_99 wd_2_100 hK hP hD hS hA [0, 3] [1, 2] [2, 0, 1, 3] rfl rfl rfl rfl (by decide) rfl (fun _ => rfl) (ci := 2) rfl rfl rfl rfl hl.1 rfl (Nat.le_of_ble_eq_true rfl) dX2_worthAt_117 ⟨Nat.zero_le _, Nat.zero_le _⟩ (fun _ H locs hP hD hS => ?_)
    have hP : va_P (dC, dI) vwCl [(a_o, .inr (2, [.int o_persons, .int o_ring, .int o_highestTold, .ref a_o_bestPlace, .ref a_o_stepCost, .ref a_o_kind, .ref a_o_likings])), (a_o_bestPlace, .inl (cI, 8, .inl o_bestPlace)), (a_o_stepCost, .inl (cI, 8, .inl o_stepCost)), (a_o_likings, .inl (cI, 64, .inl o_likings))] H := hP
    have hD : va_D A [(a_o, .inr (2, [.int o_persons, .int o_ring, .int o_highestTold, .ref a_o_bestPlace, .ref a_o_stepCost, .ref a_o_kind, .ref a_o_likings])), (a_o_bestPlace, .inl (cI, 8, .inl o_bestPlace)), (a_o_stepCost, .inl (cI, 8, .inl o_stepCost)), (a_o_likings, .inl (cI, 64, .inl o_likings))] := hD
    refine lv_bipush (v := (50 : Int32)) hx hb dX2_worthAt_120 (by decide) ?_
    refine lv_isub hx hb dX2_worthAt_122 ?_
    refine lv_iadd hx hb dX2_worthAt_123 ?_
    refine lv_istore (lv' := [(6, .int (x6 + (u_3 - (50 : Int32)))), (0, .ref a_o), (1, .int x1), (3, .int x3), (5, .int x5)]) hx hb dX2_worthAt_124 hl (by decide) rfl (fun ls hl => ?_)
    refine lv_iload hx hb dX2_worthAt_126 (lv_at hl 0 rfl) ?_
    exact hret H locs ls 128 (x6 + (u_3 - (50 : Int32))) hf dX2_worthAt_128 hP hD hS
  have B84 : ∀ (x1 : Int32) (x2 : Int32) (x3 : Int32) (x4 : Int32) (x5 : Int32) (x6 : Int32) (H : Heap) (locs : List Loc) (ls : Array Slot), f_X2_worthAt_b84 o_persons o_ring o_bestPlace o_stepCost o_likings x1 x2 x3 x4 x5 x6 = some res → va_P (dC, dI) vwCl [(a_o, .inr (2, [.int o_persons, .int o_ring, .int o_highestTold, .ref a_o_bestPlace, .ref a_o_stepCost, .ref a_o_kind, .ref a_o_likings])), (a_o_bestPlace, .inl (cI, 8, .inl o_bestPlace)), (a_o_stepCost, .inl (cI, 8, .inl o_stepCost)), (a_o_likings, .inl (cI, 64, .inl o_likings))] H → va_D A [(a_o, .inr (2, [.int o_persons, .int o_ring, .int o_highestTold, .ref a_o_bestPlace, .ref a_o_stepCost, .ref a_o_kind, .ref a_o_likings])), (a_o_bestPlace, .inl (cI, 8, .inl o_bestPlace)), (a_o_stepCost, .inl (cI, 8, .inl o_stepCost)), (a_o_likings, .inl (cI, 64, .inl o_likings))] → va_S A s.heap H locs → lv_has ls 7 [(0, .ref a_o), (1, .int x1), (2, .int x2), (3, .int x3), (4, .int x4), (5, .int x5), (6, .int x6)] → W p l e (headSpec (kws yX2_worthAt cX2_worthAt 7 (some .int)) rm_X2_worthAt).room s m args below meth c H locs 0 0 Q (F0 m 84 ls []) := by
    intro x1 x2 x3 x4 x5 x6 H locs ls hf hP hD hS hl
    unfold f_X2_worthAt_b84 at hf
    refine lv_aload_n hx hb dX2_worthAt_84 rfl (lv_at hl 0 rfl) ?_
    refine va_get (ci := 2) (v := .int o_ring) (C := RX2) (T := TX2) (N := 7) hx hb ht inX2 hown hK hP 0 rfl rfl 1 (by decide) (ht _ wd_1_57) (fun _ h9 => h9) rfl dX2_worthAt_85 ?_
    refine lv_if_eq (tgt := 101) hx hb dX2_worthAt_88 (by decide) (fun c_5 => ?_) (fun c_5 => ?_)
    · have hf := ifp c_5 hf
      refine lv_iload hx hb dX2_worthAt_101 (lv_at hl 5 rfl) ?_
      refine lv_iload_n hx hb dX2_worthAt_103 rfl (lv_at hl 2 rfl) ?_
      refine lv_icmp_le (tgt := 126) hx hb dX2_worthAt_104 (by decide) (fun c_6 => ?_) (fun c_6 => ?_)
      · have hf := ifp c_6 hf
        refine lv_iload hx hb dX2_worthAt_126 (lv_at hl 6 rfl) ?_
        exact hret H locs ls 128 x6 hf dX2_worthAt_128 hP hD hS
      · have hf := ifn c_6 hf
        exact B107 x1 x3 x5 x6 H locs ls hf hP hD hS (lv_sub hl [0, 1, 3, 5, 6] rfl)
    · have hf := ifn c_5 hf
      refine lv_iload hx hb dX2_worthAt_91 (lv_at hl 5 rfl) ?_
      refine lv_iload hx hb dX2_worthAt_93 (lv_at hl 4 rfl) ?_
      refine lv_icmp_eq (tgt := 126) hx hb dX2_worthAt_95 (by decide) (fun c_7 => ?_) (fun c_7 => ?_)
      · have hf := ifp c_7 hf
        refine lv_iload hx hb dX2_worthAt_126 (lv_at hl 6 rfl) ?_
        exact hret H locs ls 128 x6 hf dX2_worthAt_128 hP hD hS
      · have hf := ifn c_7 hf
        refine lv_goto (tgt := 107) hx hb dX2_worthAt_98 (by decide) ?_
        exact B107 x1 x3 x5 x6 H locs ls hf hP hD hS (lv_sub hl [0, 1, 3, 5, 6] rfl)
  have B65 : ∀ (x1 : Int32) (x2 : Int32) (x3 : Int32) (x4 : Int32) (x5 : Int32) (x6 : Int32) (H : Heap) (locs : List Loc) (ls : Array Slot), f_X2_worthAt_b65 o_persons o_ring o_bestPlace o_stepCost o_likings x1 x2 x3 x4 x5 x6 = some res → va_P (dC, dI) vwCl [(a_o, .inr (2, [.int o_persons, .int o_ring, .int o_highestTold, .ref a_o_bestPlace, .ref a_o_stepCost, .ref a_o_kind, .ref a_o_likings])), (a_o_bestPlace, .inl (cI, 8, .inl o_bestPlace)), (a_o_stepCost, .inl (cI, 8, .inl o_stepCost)), (a_o_likings, .inl (cI, 64, .inl o_likings))] H → va_D A [(a_o, .inr (2, [.int o_persons, .int o_ring, .int o_highestTold, .ref a_o_bestPlace, .ref a_o_stepCost, .ref a_o_kind, .ref a_o_likings])), (a_o_bestPlace, .inl (cI, 8, .inl o_bestPlace)), (a_o_stepCost, .inl (cI, 8, .inl o_stepCost)), (a_o_likings, .inl (cI, 64, .inl o_likings))] → va_S A s.heap H locs → lv_has ls 7 [(0, .ref a_o), (1, .int x1), (2, .int x2), (3, .int x3), (4, .int x4), (5, .int x5), (6, .int x6)] → W p l e (headSpec (kws yX2_worthAt cX2_worthAt 7 (some .int)) rm_X2_worthAt).room s m args below meth c H locs 0 0 Q (F0 m 65 ls []) := by
    intro x1 x2 x3 x4 x5 x6 H locs ls hf hP hD hS hl
    unfold f_X2_worthAt_b65 at hf
    refine lv_iload hx hb dX2_worthAt_65 (lv_at hl 6 rfl) ?_
    refine lv_aload_n hx hb dX2_worthAt_67 rfl (lv_at hl 0 rfl) ?_
    refine lv_iload_n hx hb dX2_worthAt_68 rfl (lv_at hl 3 rfl) ?_
    refine lv_iload_n hx hb dX2_worthAt_69 rfl (lv_at hl 1 rfl) ?_
    refine lv_iload hx hb dX2_worthAt_70 (lv_at hl 4 rfl) ?_
    obtain ⟨u_8, h_9, hf⟩ := obs hf
    refine kcSi (rest := [.int x3, .ref a_o, .int x6]) (wr := [(a_o, .inr (2, [.int o_persons, .int o_ring, .int o_highestTold, .ref a_o_bestPlace, .ref a_o_stepCost, .ref a_o_kind, .ref a_o_likings])), (a_o_bestPlace, .inl (cI, 8, .inl o_bestPlace)), (a_o_stepCost, .inl (cI, 8, .inl o_stepCost)), (a_o_likings, .inl (cI, 64, .inl o_likings))]) (w2 := fun _ => [(a_o, .inr (2, [.int o_persons, .int o_ring, .int o_highestTold, .ref a_o_bestPlace, .ref a_o_stepCost, .ref a_o_kind, .ref a_o_likings])), (a_o_bestPlace, .inl (cI, 8, .inl o_bestPlace)), (a_o_stepCost, .inl (cI, 8, .inl o_stepCost)), (a_o_likings, .inl (cI, 64, .inl o_likings))]) hx hb hml hown ht (c_X4_who l dC dI cI cJ cZ H.size x1 x4 u_8 h_9) (kcw 2 ht wd_2_93 wd_1_12 wd_2_115 kd_X4_who ⟨rfl, rfl⟩ ⟨Nat.le_of_ble_eq_true rfl, Nat.le_of_ble_eq_true rfl⟩) wd_2_92 hK hP hD hS hA [] [0, 1, 2, 3] [0, 1, 2, 3] rfl rfl rfl rfl (by decide) rfl (fun _ => rfl) rfl hl.1 rfl (Nat.le_of_ble_eq_true rfl) dX2_worthAt_72 ⟨Nat.zero_le _, Nat.zero_le _⟩ (fun _ H locs hP hD hS => ?_)
    have hP : va_P (dC, dI) vwCl [(a_o, .inr (2, [.int o_persons, .int o_ring, .int o_highestTold, .ref a_o_bestPlace, .ref a_o_stepCost, .ref a_o_kind, .ref a_o_likings])), (a_o_bestPlace, .inl (cI, 8, .inl o_bestPlace)), (a_o_stepCost, .inl (cI, 8, .inl o_stepCost)), (a_o_likings, .inl (cI, 64, .inl o_likings))] H := hP
    have hD : va_D A [(a_o, .inr (2, [.int o_persons, .int o_ring, .int o_highestTold, .ref a_o_bestPlace, .ref a_o_stepCost, .ref a_o_kind, .ref a_o_likings])), (a_o_bestPlace, .inl (cI, 8, .inl o_bestPlace)), (a_o_stepCost, .inl (cI, 8, .inl o_stepCost)), (a_o_likings, .inl (cI, 64, .inl o_likings))] := hD
    obtain ⟨u_10, h_11, hf⟩ := obs hf
    refine kcVi (rest := [.int x6]) (wr := [(a_o_bestPlace, .inl (cI, 8, .inl o_bestPlace)), (a_o_stepCost, .inl (cI, 8, .inl o_stepCost))]) (w2 := fun _ => [(a_o, .inr (2, [.int o_persons, .int o_ring, .int o_highestTold, .ref a_o_bestPlace, .ref a_o_stepCost, .ref a_o_kind, .ref a_o_likings])), (a_o_bestPlace, .inl (cI, 8, .inl o_bestPlace)), (a_o_stepCost, .inl (cI, 8, .inl o_stepCost)), (a_o_likings, .inl (cI, 64, .inl o_likings))]) hx hb hml hown ht (c_X2_liking l dC dI cI cJ cZ a_o a_o_bestPlace a_o_stepCost a_o_kind a_o_likings H.size o_persons o_ring o_highestTold o_likings x3 u_8 u_10 h_11) (kcw 2 ht wd_2_101 wd_1_3 wd_2_124 kd_X2_liking ⟨rfl, rfl⟩ ⟨Nat.le_of_ble_eq_true rfl, Nat.le_of_ble_eq_true rfl⟩) wd_2_99 wd_2_100 hK hP hD hS hA [0, 3] [1, 2] [2, 0, 1, 3] rfl rfl rfl rfl (by decide) rfl (fun _ => rfl) (ci := 2) rfl rfl rfl rfl hl.1 rfl (Nat.le_of_ble_eq_true rfl) dX2_worthAt_75 ⟨Nat.zero_le _, Nat.zero_le _⟩ (fun _ H locs hP hD hS => ?_)
    have hP : va_P (dC, dI) vwCl [(a_o, .inr (2, [.int o_persons, .int o_ring, .int o_highestTold, .ref a_o_bestPlace, .ref a_o_stepCost, .ref a_o_kind, .ref a_o_likings])), (a_o_bestPlace, .inl (cI, 8, .inl o_bestPlace)), (a_o_stepCost, .inl (cI, 8, .inl o_stepCost)), (a_o_likings, .inl (cI, 64, .inl o_likings))] H := hP
    have hD : va_D A [(a_o, .inr (2, [.int o_persons, .int o_ring, .int o_highestTold, .ref a_o_bestPlace, .ref a_o_stepCost, .ref a_o_kind, .ref a_o_likings])), (a_o_bestPlace, .inl (cI, 8, .inl o_bestPlace)), (a_o_stepCost, .inl (cI, 8, .inl o_stepCost)), (a_o_likings, .inl (cI, 64, .inl o_likings))] := hD
    refine lv_bipush (v := (50 : Int32)) hx hb dX2_worthAt_78 (by decide) ?_
    refine lv_isub hx hb dX2_worthAt_80 ?_
    refine lv_iadd hx hb dX2_worthAt_81 ?_
    refine lv_istore (lv' := [(6, .int (x6 + (u_10 - (50 : Int32)))), (0, .ref a_o), (1, .int x1), (2, .int x2), (3, .int x3), (4, .int x4), (5, .int x5)]) hx hb dX2_worthAt_82 hl (by decide) rfl (fun ls hl => ?_)
    exact B84 x1 x2 x3 x4 x5 (x6 + (u_10 - (50 : Int32))) H locs ls hf hP hD hS (lv_sub hl [1, 2, 3, 4, 5, 6, 0] rfl)
  have B22 : ∀ (x1 : Int32) (x2 : Int32) (x3 : Int32) (t0 : Int32) (H : Heap) (locs : List Loc) (ls : Array Slot), f_X2_worthAt_b22 o_persons o_ring o_bestPlace o_stepCost o_likings x1 x2 x3 t0 = some res → va_P (dC, dI) vwCl [(a_o, .inr (2, [.int o_persons, .int o_ring, .int o_highestTold, .ref a_o_bestPlace, .ref a_o_stepCost, .ref a_o_kind, .ref a_o_likings])), (a_o_bestPlace, .inl (cI, 8, .inl o_bestPlace)), (a_o_stepCost, .inl (cI, 8, .inl o_stepCost)), (a_o_likings, .inl (cI, 64, .inl o_likings))] H → va_D A [(a_o, .inr (2, [.int o_persons, .int o_ring, .int o_highestTold, .ref a_o_bestPlace, .ref a_o_stepCost, .ref a_o_kind, .ref a_o_likings])), (a_o_bestPlace, .inl (cI, 8, .inl o_bestPlace)), (a_o_stepCost, .inl (cI, 8, .inl o_stepCost)), (a_o_likings, .inl (cI, 64, .inl o_likings))] → va_S A s.heap H locs → lv_has ls 7 [(0, .ref a_o), (1, .int x1), (2, .int x2), (3, .int x3)] → W p l e (headSpec (kws yX2_worthAt cX2_worthAt 7 (some .int)) rm_X2_worthAt).room s m args below meth c H locs 0 0 Q (F0 m 22 ls [.int t0]) := by
    intro x1 x2 x3 t0 H locs ls hf hP hD hS hl
    unfold f_X2_worthAt_b22 at hf
    refine lv_istore (lv' := [(4, .int t0), (0, .ref a_o), (1, .int x1), (2, .int x2), (3, .int x3)]) hx hb dX2_worthAt_22 hl (by decide) rfl (fun ls hl => ?_)
    refine lv_aload_n hx hb dX2_worthAt_24 rfl (lv_at hl 1 rfl) ?_
    refine lv_iload_n hx hb dX2_worthAt_25 rfl (lv_at hl 3 rfl) ?_
    obtain ⟨u_12, h_13, hf⟩ := obs hf
    refine kcVi (rest := []) (wr := [(a_o_bestPlace, .inl (cI, 8, .inl o_bestPlace)), (a_o_stepCost, .inl (cI, 8, .inl o_stepCost)), (a_o_likings, .inl (cI, 64, .inl o_likings))]) (w2 := fun _ => [(a_o, .inr (2, [.int o_persons, .int o_ring, .int o_highestTold, .ref a_o_bestPlace, .ref a_o_stepCost, .ref a_o_kind, .ref a_o_likings])), (a_o_bestPlace, .inl (cI, 8, .inl o_bestPlace)), (a_o_stepCost, .inl (cI, 8, .inl o_stepCost)), (a_o_likings, .inl (cI, 64, .inl o_likings))]) hx hb hml hown ht (c_X2_after l dC dI cI cJ cZ a_o a_o_bestPlace a_o_stepCost a_o_kind a_o_likings H.size o_persons o_ring o_highestTold x2 u_12 h_13) (kcw 1 ht wd_2_119 wd_1_3 wd_2_116 kd_X2_after ⟨rfl, rfl⟩ ⟨Nat.le_of_ble_eq_true rfl, Nat.le_of_ble_eq_true rfl⟩) wd_2_117 wd_2_118 hK hP hD hS hA [0] [1, 2, 3] [3, 0, 1, 2] rfl rfl rfl rfl (by decide) rfl (fun _ => rfl) (ci := 2) rfl rfl rfl rfl hl.1 rfl (Nat.le_of_ble_eq_true rfl) dX2_worthAt_26 ⟨Nat.zero_le _, Nat.zero_le _⟩ (fun _ H locs hP hD hS => ?_)
    have hP : va_P (dC, dI) vwCl [(a_o, .inr (2, [.int o_persons, .int o_ring, .int o_highestTold, .ref a_o_bestPlace, .ref a_o_stepCost, .ref a_o_kind, .ref a_o_likings])), (a_o_bestPlace, .inl (cI, 8, .inl o_bestPlace)), (a_o_stepCost, .inl (cI, 8, .inl o_stepCost)), (a_o_likings, .inl (cI, 64, .inl o_likings))] H := hP
    have hD : va_D A [(a_o, .inr (2, [.int o_persons, .int o_ring, .int o_highestTold, .ref a_o_bestPlace, .ref a_o_stepCost, .ref a_o_kind, .ref a_o_likings])), (a_o_bestPlace, .inl (cI, 8, .inl o_bestPlace)), (a_o_stepCost, .inl (cI, 8, .inl o_stepCost)), (a_o_likings, .inl (cI, 64, .inl o_likings))] := hD
    refine lv_istore (lv' := [(5, .int u_12), (4, .int t0), (0, .ref a_o), (1, .int x1), (2, .int x2), (3, .int x3)]) hx hb dX2_worthAt_29 hl (by decide) rfl (fun ls hl => ?_)
    refine lv_bipush (v := (100 : Int32)) hx hb dX2_worthAt_31 (by decide) ?_
    refine lv_aload_n hx hb dX2_worthAt_33 rfl (lv_at hl 2 rfl) ?_
    refine va_get (ci := 2) (v := .ref a_o_stepCost) (C := RX2) (T := TX2) (N := 7) hx hb ht inX2 hown hK hP 0 rfl rfl 4 (by decide) (ht _ wd_1_61) (fun _ h9 => h9) rfl dX2_worthAt_34 ?_
    refine lv_iload_n hx hb dX2_worthAt_37 rfl (lv_at hl 5 rfl) ?_
    obtain ⟨b_14, hf⟩ := bd_some hf
    refine va_iald hx hb hK hP 2 0 rfl rfl b_14 dX2_worthAt_38 ?_
    refine lv_aload_n hx hb dX2_worthAt_39 rfl (lv_at hl 2 rfl) ?_
    refine lv_iload_n hx hb dX2_worthAt_40 rfl (lv_at hl 4 rfl) ?_
    refine lv_aload_n hx hb dX2_worthAt_41 rfl (lv_at hl 2 rfl) ?_
    refine va_get (ci := 2) (v := .ref a_o_bestPlace) (C := RX2) (T := TX2) (N := 7) hx hb ht inX2 hown hK hP 0 rfl rfl 3 (by decide) (ht _ wd_1_59) (fun _ h9 => h9) rfl dX2_worthAt_42 ?_
    refine lv_iload_n hx hb dX2_worthAt_45 rfl (lv_at hl 5 rfl) ?_
    obtain ⟨b_15, hf⟩ := bd_some hf
    refine va_iald hx hb hK hP 1 0 rfl rfl b_15 dX2_worthAt_46 ?_
    obtain ⟨u_16, h_17, hf⟩ := obs hf
    refine kcVi (rest := [.int (o_stepCost x3.toNatClampNeg), .int (100 : Int32)]) (wr := [(a_o_bestPlace, .inl (cI, 8, .inl o_bestPlace)), (a_o_stepCost, .inl (cI, 8, .inl o_stepCost)), (a_o_likings, .inl (cI, 64, .inl o_likings))]) (w2 := fun _ => [(a_o, .inr (2, [.int o_persons, .int o_ring, .int o_highestTold, .ref a_o_bestPlace, .ref a_o_stepCost, .ref a_o_kind, .ref a_o_likings])), (a_o_bestPlace, .inl (cI, 8, .inl o_bestPlace)), (a_o_stepCost, .inl (cI, 8, .inl o_stepCost)), (a_o_likings, .inl (cI, 64, .inl o_likings))]) hx hb hml hown ht (c_X2_far l dC dI cI cJ cZ a_o a_o_bestPlace a_o_stepCost a_o_kind a_o_likings H.size o_persons o_ring o_highestTold x2 (o_bestPlace x3.toNatClampNeg) u_16 h_17) (kcw 2 ht wd_2_123 wd_1_3 wd_2_120 kd_X2_far ⟨rfl, rfl⟩ ⟨Nat.le_of_ble_eq_true rfl, Nat.le_of_ble_eq_true rfl⟩) wd_2_121 wd_2_122 hK hP hD hS hA [0] [1, 2, 3] [3, 0, 1, 2] rfl rfl rfl rfl (by decide) rfl (fun _ => rfl) (ci := 2) rfl rfl rfl rfl hl.1 rfl (Nat.le_of_ble_eq_true rfl) dX2_worthAt_47 ⟨Nat.zero_le _, Nat.zero_le _⟩ (fun _ H locs hP hD hS => ?_)
    have hP : va_P (dC, dI) vwCl [(a_o, .inr (2, [.int o_persons, .int o_ring, .int o_highestTold, .ref a_o_bestPlace, .ref a_o_stepCost, .ref a_o_kind, .ref a_o_likings])), (a_o_bestPlace, .inl (cI, 8, .inl o_bestPlace)), (a_o_stepCost, .inl (cI, 8, .inl o_stepCost)), (a_o_likings, .inl (cI, 64, .inl o_likings))] H := hP
    have hD : va_D A [(a_o, .inr (2, [.int o_persons, .int o_ring, .int o_highestTold, .ref a_o_bestPlace, .ref a_o_stepCost, .ref a_o_kind, .ref a_o_likings])), (a_o_bestPlace, .inl (cI, 8, .inl o_bestPlace)), (a_o_stepCost, .inl (cI, 8, .inl o_stepCost)), (a_o_likings, .inl (cI, 64, .inl o_likings))] := hD
    refine lv_imul hx hb dX2_worthAt_50 ?_
    refine lv_isub hx hb dX2_worthAt_51 ?_
    refine lv_istore (lv' := [(6, .int ((100 : Int32) - ((o_stepCost x3.toNatClampNeg) * u_16))), (5, .int u_12), (4, .int t0), (0, .ref a_o), (1, .int x1), (2, .int x2), (3, .int x3)]) hx hb dX2_worthAt_52 hl (by decide) rfl (fun ls hl => ?_)
    refine lv_aload_n hx hb dX2_worthAt_54 rfl (lv_at hl 3 rfl) ?_
    refine va_get (ci := 2) (v := .int o_ring) (C := RX2) (T := TX2) (N := 7) hx hb ht inX2 hown hK hP 0 rfl rfl 1 (by decide) (ht _ wd_1_57) (fun _ h9 => h9) rfl dX2_worthAt_55 ?_
    refine lv_if_ne (tgt := 65) hx hb dX2_worthAt_58 (by decide) (fun c_18 => ?_) (fun c_18 => ?_)
    · have hf := ifn c_18 hf
      exact B65 x1 x2 x3 t0 u_12 ((100 : Int32) - ((o_stepCost x3.toNatClampNeg) * u_16)) H locs ls hf hP hD hS (lv_sub hl [3, 4, 5, 6, 2, 1, 0] rfl)
    · have hf := ifp c_18 hf
      refine lv_iload_n hx hb dX2_worthAt_61 rfl (lv_at hl 5 rfl) ?_
      refine lv_if_le (tgt := 84) hx hb dX2_worthAt_62 (by decide) (fun c_19 => ?_) (fun c_19 => ?_)
      · have hf := ifp c_19 hf
        exact B84 x1 x2 x3 t0 u_12 ((100 : Int32) - ((o_stepCost x3.toNatClampNeg) * u_16)) H locs ls hf hP hD hS (lv_sub hl [3, 4, 5, 6, 2, 1, 0] rfl)
      · have hf := ifn c_19 hf
        exact B65 x1 x2 x3 t0 u_12 ((100 : Int32) - ((o_stepCost x3.toNatClampNeg) * u_16)) H locs ls hf hP hD hS (lv_sub hl [3, 4, 5, 6, 2, 1, 0] rfl)
  obtain ⟨H, hH⟩ : ∃ H, H = s.heap := ⟨_, rfl⟩
  obtain ⟨locs, hlo⟩ : ∃ L : List Loc, L = [] := ⟨_, rfl⟩
  rw [← hH] at hP
  have hS : va_S A s.heap H locs := by rw [hH, hlo]; exact hS
  rw [show W p l e (headSpec (kws yX2_worthAt cX2_worthAt 7 (some .int)) rm_X2_worthAt).room s m args below meth c s.heap [] 0 0 Q (F0 m 0 ls []) = W p l e (headSpec (kws yX2_worthAt cX2_worthAt 7 (some .int)) rm_X2_worthAt).room s m args below meth c H locs 0 0 Q (F0 m 0 ls []) from by rw [hH, hlo]]
  refine lv_iload_n hx hb dX2_worthAt_0 rfl (lv_at hl 1 rfl) ?_
  refine lv_iload_n hx hb dX2_worthAt_1 rfl (lv_at hl 2 rfl) ?_
  obtain ⟨u_20, h_21, hf⟩ := obs hf
  refine kcSi (rest := []) (wr := [(a_o, .inr (2, [.int o_persons, .int o_ring, .int o_highestTold, .ref a_o_bestPlace, .ref a_o_stepCost, .ref a_o_kind, .ref a_o_likings])), (a_o_bestPlace, .inl (cI, 8, .inl o_bestPlace)), (a_o_stepCost, .inl (cI, 8, .inl o_stepCost)), (a_o_likings, .inl (cI, 64, .inl o_likings))]) (w2 := fun _ => [(a_o, .inr (2, [.int o_persons, .int o_ring, .int o_highestTold, .ref a_o_bestPlace, .ref a_o_stepCost, .ref a_o_kind, .ref a_o_likings])), (a_o_bestPlace, .inl (cI, 8, .inl o_bestPlace)), (a_o_stepCost, .inl (cI, 8, .inl o_stepCost)), (a_o_likings, .inl (cI, 64, .inl o_likings))]) hx hb hml hown ht (c_X4_who l dC dI cI cJ cZ H.size x1 x2 u_20 h_21) (kcw 2 ht wd_2_93 wd_1_12 wd_2_115 kd_X4_who ⟨rfl, rfl⟩ ⟨Nat.le_of_ble_eq_true rfl, Nat.le_of_ble_eq_true rfl⟩) wd_2_92 hK hP hD hS hA [] [0, 1, 2, 3] [0, 1, 2, 3] rfl rfl rfl rfl (by decide) rfl (fun _ => rfl) rfl hl.1 rfl (Nat.le_of_ble_eq_true rfl) dX2_worthAt_2 ⟨Nat.zero_le _, Nat.zero_le _⟩ (fun _ H locs hP hD hS => ?_)
  have hP : va_P (dC, dI) vwCl [(a_o, .inr (2, [.int o_persons, .int o_ring, .int o_highestTold, .ref a_o_bestPlace, .ref a_o_stepCost, .ref a_o_kind, .ref a_o_likings])), (a_o_bestPlace, .inl (cI, 8, .inl o_bestPlace)), (a_o_stepCost, .inl (cI, 8, .inl o_stepCost)), (a_o_likings, .inl (cI, 64, .inl o_likings))] H := hP
  have hD : va_D A [(a_o, .inr (2, [.int o_persons, .int o_ring, .int o_highestTold, .ref a_o_bestPlace, .ref a_o_stepCost, .ref a_o_kind, .ref a_o_likings])), (a_o_bestPlace, .inl (cI, 8, .inl o_bestPlace)), (a_o_stepCost, .inl (cI, 8, .inl o_stepCost)), (a_o_likings, .inl (cI, 64, .inl o_likings))] := hD
  refine lv_istore_n (lv' := [(3, .int u_20), (0, .ref a_o), (1, .int x1), (2, .int x2)]) hx hb dX2_worthAt_5 rfl hl (by decide) rfl (fun ls hl => ?_)
  refine lv_iload_n hx hb dX2_worthAt_6 rfl (lv_at hl 3 rfl) ?_
  refine lv_if_le (tgt := 16) hx hb dX2_worthAt_7 (by decide) (fun c_22 => ?_) (fun c_22 => ?_)
  · have hf := ifp c_22 hf
    refine lv_aload_n hx hb dX2_worthAt_16 rfl (lv_at hl 1 rfl) ?_
    refine va_get (ci := 2) (v := .int o_persons) (C := RX2) (T := TX2) (N := 7) hx hb ht inX2 hown hK hP 0 rfl rfl 0 (by decide) (ht _ wd_1_54) (fun _ h9 => h9) rfl dX2_worthAt_17 ?_
    refine lv_iconst (v := (1 : Int32)) hx hb dX2_worthAt_20 (by decide) ?_
    refine lv_isub hx hb dX2_worthAt_21 ?_
    exact B22 x1 x2 u_20 (o_persons - (1 : Int32)) H locs ls hf hP hD hS (lv_sub hl [1, 2, 3, 0] rfl)
  · have hf := ifn c_22 hf
    refine lv_iload_n hx hb dX2_worthAt_10 rfl (lv_at hl 3 rfl) ?_
    refine lv_iconst (v := (1 : Int32)) hx hb dX2_worthAt_11 (by decide) ?_
    refine lv_isub hx hb dX2_worthAt_12 ?_
    refine lv_goto (tgt := 22) hx hb dX2_worthAt_13 (by decide) ?_
    exact B22 x1 x2 u_20 (x2 - (1 : Int32)) H locs ls hf hP hD hS (lv_sub hl [1, 2, 3, 0] rfl)
def f_X2_worthOf (x1 : Int32) (x2 : Int32) (o_persons : Int32) (o_ring : Int32) (o_bestPlace : Nat → Int32) (o_stepCost : Nat → Int32) (o_likings : Nat → Int32) : Option (Int32) := Option.bind (f_X4_placeOf x1 x2) (fun u_1 => Option.bind (f_X2_worthAt x1 u_1 o_persons o_ring o_bestPlace o_stepCost o_likings) (fun u_3 => some u_3))
abbrev rm_X2_worthOf : Room := { frames := 2, cells := 0, slots := 0, locals := 49 }
theorem kd_X2_worthOf : yX2_worthOf.cls ≠ "java/lang/invoke/MethodHandle" ∧ yX2_worthOf.cls ≠ "java/lang/invoke/VarHandle" ∧ (parseMethodDescriptor yX2_worthOf.desc).map (fun d => d.parameters.length) = some 2 := by decide +kernel
set_option maxHeartbeats 4000000 in
set_option maxRecDepth 100000 in
theorem c_X2_worthOf (l : Launch) (dC : Nat → ClassId) (dI : Nat → Nat → Nat) (cI cJ cZ : ClassId) (a_o a_o_bestPlace a_o_stepCost a_o_kind a_o_likings : Nat) (sz : Nat) (o_persons : Int32) (o_ring : Int32) (o_highestTold : Int32) (o_bestPlace : Nat → Int32) (o_stepCost : Nat → Int32) (o_likings : Nat → Int32) (x1 : Int32) (x2 : Int32) (res : Int32) (hf : f_X2_worthOf x1 x2 o_persons o_ring o_bestPlace o_stepCost o_likings = some res) : kMi Unit l yX2_worthOf cX2_worthOf 3 (some .int) rm_X2_worthOf [.ref a_o, .int x1, .int x2] (dC, dI) (kT cI cJ cZ) sz [(a_o, .inr (2, [.int o_persons, .int o_ring, .int o_highestTold, .ref a_o_bestPlace, .ref a_o_stepCost, .ref a_o_kind, .ref a_o_likings])), (a_o_bestPlace, .inl (cI, 8, .inl o_bestPlace)), (a_o_stepCost, .inl (cI, 8, .inl o_stepCost)), (a_o_likings, .inl (cI, 64, .inl o_likings))] res (fun _ => [(a_o, .inr (2, [.int o_persons, .int o_ring, .int o_highestTold, .ref a_o_bestPlace, .ref a_o_stepCost, .ref a_o_kind, .ref a_o_likings])), (a_o_bestPlace, .inl (cI, 8, .inl o_bestPlace)), (a_o_stepCost, .inl (cI, 8, .inl o_stepCost)), (a_o_likings, .inl (cI, 64, .inl o_likings))]) := by
  refine Met.ofW (cc := cX2_worthOf) (maxL := 3) (ret := (some .int)) (by decide) rfl ?_
  intro p e s m args below meth c s₁ B hml hv
  obtain ⟨rfl, hsz, hP, hK, hD0⟩ := hv
  have hx := B.exec
  have hb := B.bytes
  have hr := B.returns
  have ht : ∀ w ∈ lw_g, w.before ([.ref a_o, .int x1, .int x2] : List Value).toArray s = true := fun w h => atoms_spec (ws := kws yX2_worthOf cX2_worthOf 3 (some .int)) B.pre w (List.mem_cons_of_mem _ h)
  have hown : s.vm.findClass RX2 = some m.cls := findClass_of_methodNamed B.named
  have hlocks := B.notSynchronized
  subst hsz
  have hD := hD0.self (sz := s.heap.size)
  generalize hAe : va_A [(a_o, .inr (2, [.int o_persons, .int o_ring, .int o_highestTold, .ref a_o_bestPlace, .ref a_o_stepCost, .ref a_o_kind, .ref a_o_likings])), (a_o_bestPlace, .inl (cI, 8, .inl o_bestPlace)), (a_o_stepCost, .inl (cI, 8, .inl o_stepCost)), (a_o_likings, .inl (cI, 64, .inl o_likings))] s.heap.size = A at hD ⊢
  have hA : ∀ q : Nat, s.heap.size ≤ q → A q := fun q h => by rw [← hAe]; exact Or.inr h
  have hS : va_S A s.heap s.heap [] := va_S.rf
  have hret : ∀ (H : Heap) (locs : List Loc) (ls : Array Slot) (pc : Nat) (v : Int32), some v = some res → decode cX2_worthOf pc = .ok (.ireturn, 1) → va_P (dC, dI) vwCl [(a_o, .inr (2, [.int o_persons, .int o_ring, .int o_highestTold, .ref a_o_bestPlace, .ref a_o_stepCost, .ref a_o_kind, .ref a_o_likings])), (a_o_bestPlace, .inl (cI, 8, .inl o_bestPlace)), (a_o_stepCost, .inl (cI, 8, .inl o_stepCost)), (a_o_likings, .inl (cI, 64, .inl o_likings))] H → va_D A [(a_o, .inr (2, [.int o_persons, .int o_ring, .int o_highestTold, .ref a_o_bestPlace, .ref a_o_stepCost, .ref a_o_kind, .ref a_o_likings])), (a_o_bestPlace, .inl (cI, 8, .inl o_bestPlace)), (a_o_stepCost, .inl (cI, 8, .inl o_stepCost)), (a_o_likings, .inl (cI, 64, .inl o_likings))] → va_S A s.heap H locs → W p l e (headSpec (kws yX2_worthOf cX2_worthOf 3 (some .int)) rm_X2_worthOf).room s m ([.ref a_o, .int x1, .int x2] : List Value).toArray below meth c H locs 0 0 (MQ below (kQi Unit (dC, dI) A res (fun _ => [(a_o, .inr (2, [.int o_persons, .int o_ring, .int o_highestTold, .ref a_o_bestPlace, .ref a_o_stepCost, .ref a_o_kind, .ref a_o_likings])), (a_o_bestPlace, .inl (cI, 8, .inl o_bestPlace)), (a_o_stepCost, .inl (cI, 8, .inl o_stepCost)), (a_o_likings, .inl (cI, 64, .inl o_likings))])) ([.ref a_o, .int x1, .int x2] : List Value).toArray s 0 0 A) (F0 m pc ls [.int v]) := by
    intro H locs ls pc v he hd hP hD hS
    obtain rfl := Option.some.inj he
    exact kri hx hb hr hlocks () hP hD hS hd
  have hl := lv_entry ([.ref a_o, .int x1, .int x2]) (n := 3) (Nat.le_of_ble_eq_true rfl)
  rw [lg_entry_eq]
  generalize (lg_sl ([.ref a_o, .int x1, .int x2]) ++ List.replicate (3 - (lg_sl ([.ref a_o, .int x1, .int x2])).length) Slot.unset).toArray = ls at hl ⊢
  have hl : lv_has ls 3 [(0, .ref a_o), (1, .int x1), (2, .int x2)] := hl
  generalize (MQ below _ ([.ref a_o, .int x1, .int x2] : List Value).toArray s 0 0 A) = Q at hret ⊢
  generalize ([.ref a_o, .int x1, .int x2] : List Value).toArray = args at ht hret ⊢
  have hP : va_P (dC, dI) vwCl [(a_o, .inr (2, [.int o_persons, .int o_ring, .int o_highestTold, .ref a_o_bestPlace, .ref a_o_stepCost, .ref a_o_kind, .ref a_o_likings])), (a_o_bestPlace, .inl (cI, 8, .inl o_bestPlace)), (a_o_stepCost, .inl (cI, 8, .inl o_stepCost)), (a_o_likings, .inl (cI, 64, .inl o_likings))] s.heap := hP
  unfold f_X2_worthOf at hf
  obtain ⟨H, hH⟩ : ∃ H, H = s.heap := ⟨_, rfl⟩
  obtain ⟨locs, hlo⟩ : ∃ L : List Loc, L = [] := ⟨_, rfl⟩
  rw [← hH] at hP
  have hS : va_S A s.heap H locs := by rw [hH, hlo]; exact hS
  rw [show W p l e (headSpec (kws yX2_worthOf cX2_worthOf 3 (some .int)) rm_X2_worthOf).room s m args below meth c s.heap [] 0 0 Q (F0 m 0 ls []) = W p l e (headSpec (kws yX2_worthOf cX2_worthOf 3 (some .int)) rm_X2_worthOf).room s m args below meth c H locs 0 0 Q (F0 m 0 ls []) from by rw [hH, hlo]]
  refine lv_aload_n hx hb dX2_worthOf_0 rfl (lv_at hl 0 rfl) ?_
  refine lv_iload_n hx hb dX2_worthOf_1 rfl (lv_at hl 1 rfl) ?_
  refine lv_iload_n hx hb dX2_worthOf_2 rfl (lv_at hl 1 rfl) ?_
  refine lv_iload_n hx hb dX2_worthOf_3 rfl (lv_at hl 2 rfl) ?_
  obtain ⟨u_1, h_2, hf⟩ := obs hf
  refine kcSi (rest := [.int x1, .ref a_o]) (wr := [(a_o, .inr (2, [.int o_persons, .int o_ring, .int o_highestTold, .ref a_o_bestPlace, .ref a_o_stepCost, .ref a_o_kind, .ref a_o_likings])), (a_o_bestPlace, .inl (cI, 8, .inl o_bestPlace)), (a_o_stepCost, .inl (cI, 8, .inl o_stepCost)), (a_o_likings, .inl (cI, 64, .inl o_likings))]) (w2 := fun _ => [(a_o, .inr (2, [.int o_persons, .int o_ring, .int o_highestTold, .ref a_o_bestPlace, .ref a_o_stepCost, .ref a_o_kind, .ref a_o_likings])), (a_o_bestPlace, .inl (cI, 8, .inl o_bestPlace)), (a_o_stepCost, .inl (cI, 8, .inl o_stepCost)), (a_o_likings, .inl (cI, 64, .inl o_likings))]) hx hb hml hown ht (c_X4_placeOf l dC dI cI cJ cZ H.size x1 x2 u_1 h_2) (kcw 2 ht wd_2_90 wd_1_12 wd_2_110 kd_X4_placeOf ⟨rfl, rfl⟩ ⟨Nat.le_of_ble_eq_true rfl, Nat.le_of_ble_eq_true rfl⟩) wd_2_89 hK hP hD hS hA [] [0, 1, 2, 3] [0, 1, 2, 3] rfl rfl rfl rfl (by decide) rfl (fun _ => rfl) rfl hl.1 rfl (Nat.le_of_ble_eq_true rfl) dX2_worthOf_4 ⟨Nat.zero_le _, Nat.zero_le _⟩ (fun _ H locs hP hD hS => ?_)
  have hP : va_P (dC, dI) vwCl [(a_o, .inr (2, [.int o_persons, .int o_ring, .int o_highestTold, .ref a_o_bestPlace, .ref a_o_stepCost, .ref a_o_kind, .ref a_o_likings])), (a_o_bestPlace, .inl (cI, 8, .inl o_bestPlace)), (a_o_stepCost, .inl (cI, 8, .inl o_stepCost)), (a_o_likings, .inl (cI, 64, .inl o_likings))] H := hP
  have hD : va_D A [(a_o, .inr (2, [.int o_persons, .int o_ring, .int o_highestTold, .ref a_o_bestPlace, .ref a_o_stepCost, .ref a_o_kind, .ref a_o_likings])), (a_o_bestPlace, .inl (cI, 8, .inl o_bestPlace)), (a_o_stepCost, .inl (cI, 8, .inl o_stepCost)), (a_o_likings, .inl (cI, 64, .inl o_likings))] := hD
  obtain ⟨u_3, h_4, hf⟩ := obs hf
  refine kcVi (rest := []) (wr := []) (w2 := fun _ => [(a_o, .inr (2, [.int o_persons, .int o_ring, .int o_highestTold, .ref a_o_bestPlace, .ref a_o_stepCost, .ref a_o_kind, .ref a_o_likings])), (a_o_bestPlace, .inl (cI, 8, .inl o_bestPlace)), (a_o_stepCost, .inl (cI, 8, .inl o_stepCost)), (a_o_likings, .inl (cI, 64, .inl o_likings))]) hx hb hml hown ht (c_X2_worthAt l dC dI cI cJ cZ a_o a_o_bestPlace a_o_stepCost a_o_kind a_o_likings H.size o_persons o_ring o_highestTold o_bestPlace o_stepCost o_likings x1 u_1 u_3 h_4) (kcw 2 ht wd_2_114 wd_1_3 wd_2_111 kd_X2_worthAt ⟨rfl, rfl⟩ ⟨Nat.le_of_ble_eq_true rfl, Nat.le_of_ble_eq_true rfl⟩) wd_2_112 wd_2_113 hK hP hD hS hA [0, 1, 2, 3] [] [0, 1, 2, 3] rfl rfl rfl rfl (by decide) rfl (fun _ => rfl) (ci := 2) rfl rfl rfl rfl hl.1 rfl (Nat.le_of_ble_eq_true rfl) dX2_worthOf_7 ⟨Nat.zero_le _, Nat.zero_le _⟩ (fun _ H locs hP hD hS => ?_)
  have hP : va_P (dC, dI) vwCl [(a_o, .inr (2, [.int o_persons, .int o_ring, .int o_highestTold, .ref a_o_bestPlace, .ref a_o_stepCost, .ref a_o_kind, .ref a_o_likings])), (a_o_bestPlace, .inl (cI, 8, .inl o_bestPlace)), (a_o_stepCost, .inl (cI, 8, .inl o_stepCost)), (a_o_likings, .inl (cI, 64, .inl o_likings))] H := hP
  have hD : va_D A [(a_o, .inr (2, [.int o_persons, .int o_ring, .int o_highestTold, .ref a_o_bestPlace, .ref a_o_stepCost, .ref a_o_kind, .ref a_o_likings])), (a_o_bestPlace, .inl (cI, 8, .inl o_bestPlace)), (a_o_stepCost, .inl (cI, 8, .inl o_stepCost)), (a_o_likings, .inl (cI, 64, .inl o_likings))] := hD
  exact hret H locs ls 10 u_3 hf dX2_worthOf_10 hP hD hS
def f_X2_sumOfWorths_l4 (o_persons : Int32) (o_ring : Int32) (o_bestPlace : Nat → Int32) (o_stepCost : Nat → Int32) (o_likings : Nat → Int32) : Nat → Int32 → Int32 → Int32 → Option (Int32)
  | 0, _, _, _ => none
  | n + 1, x1, x2, x3 => if o_persons ≤ x3 then some x2 else Option.bind (f_X2_worthAt x1 x3 o_persons o_ring o_bestPlace o_stepCost o_likings) (fun u_2 => (f_X2_sumOfWorths_l4 o_persons o_ring o_bestPlace o_stepCost o_likings n) x1 (x2 + u_2) (x3 + (1 : Int32)))
def f_X2_sumOfWorths (x1 : Int32) (o_persons : Int32) (o_ring : Int32) (o_bestPlace : Nat → Int32) (o_stepCost : Nat → Int32) (o_likings : Nat → Int32) : Option (Int32) := f_X2_sumOfWorths_l4 o_persons o_ring o_bestPlace o_stepCost o_likings NF x1 (0 : Int32) (0 : Int32)
abbrev rm_X2_sumOfWorths : Room := { frames := 2, cells := 0, slots := 0, locals := 49 }
theorem kd_X2_sumOfWorths : yX2_sumOfWorths.cls ≠ "java/lang/invoke/MethodHandle" ∧ yX2_sumOfWorths.cls ≠ "java/lang/invoke/VarHandle" ∧ (parseMethodDescriptor yX2_sumOfWorths.desc).map (fun d => d.parameters.length) = some 1 := by decide +kernel
set_option maxHeartbeats 4000000 in
set_option maxRecDepth 100000 in
theorem c_X2_sumOfWorths (l : Launch) (dC : Nat → ClassId) (dI : Nat → Nat → Nat) (cI cJ cZ : ClassId) (a_o a_o_bestPlace a_o_stepCost a_o_kind a_o_likings : Nat) (sz : Nat) (o_persons : Int32) (o_ring : Int32) (o_highestTold : Int32) (o_bestPlace : Nat → Int32) (o_stepCost : Nat → Int32) (o_likings : Nat → Int32) (x1 : Int32) (res : Int32) (hf : f_X2_sumOfWorths x1 o_persons o_ring o_bestPlace o_stepCost o_likings = some res) : kMi Unit l yX2_sumOfWorths cX2_sumOfWorths 4 (some .int) rm_X2_sumOfWorths [.ref a_o, .int x1] (dC, dI) (kT cI cJ cZ) sz [(a_o, .inr (2, [.int o_persons, .int o_ring, .int o_highestTold, .ref a_o_bestPlace, .ref a_o_stepCost, .ref a_o_kind, .ref a_o_likings])), (a_o_bestPlace, .inl (cI, 8, .inl o_bestPlace)), (a_o_stepCost, .inl (cI, 8, .inl o_stepCost)), (a_o_likings, .inl (cI, 64, .inl o_likings))] res (fun _ => [(a_o, .inr (2, [.int o_persons, .int o_ring, .int o_highestTold, .ref a_o_bestPlace, .ref a_o_stepCost, .ref a_o_kind, .ref a_o_likings])), (a_o_bestPlace, .inl (cI, 8, .inl o_bestPlace)), (a_o_stepCost, .inl (cI, 8, .inl o_stepCost)), (a_o_likings, .inl (cI, 64, .inl o_likings))]) := by
  refine Met.ofW (cc := cX2_sumOfWorths) (maxL := 4) (ret := (some .int)) (by decide) rfl ?_
  intro p e s m args below meth c s₁ B hml hv
  obtain ⟨rfl, hsz, hP, hK, hD0⟩ := hv
  have hx := B.exec
  have hb := B.bytes
  have hr := B.returns
  have ht : ∀ w ∈ lw_g, w.before ([.ref a_o, .int x1] : List Value).toArray s = true := fun w h => atoms_spec (ws := kws yX2_sumOfWorths cX2_sumOfWorths 4 (some .int)) B.pre w (List.mem_cons_of_mem _ h)
  have hown : s.vm.findClass RX2 = some m.cls := findClass_of_methodNamed B.named
  have hlocks := B.notSynchronized
  subst hsz
  have hD := hD0.self (sz := s.heap.size)
  generalize hAe : va_A [(a_o, .inr (2, [.int o_persons, .int o_ring, .int o_highestTold, .ref a_o_bestPlace, .ref a_o_stepCost, .ref a_o_kind, .ref a_o_likings])), (a_o_bestPlace, .inl (cI, 8, .inl o_bestPlace)), (a_o_stepCost, .inl (cI, 8, .inl o_stepCost)), (a_o_likings, .inl (cI, 64, .inl o_likings))] s.heap.size = A at hD ⊢
  have hA : ∀ q : Nat, s.heap.size ≤ q → A q := fun q h => by rw [← hAe]; exact Or.inr h
  have hS : va_S A s.heap s.heap [] := va_S.rf
  have hret : ∀ (H : Heap) (locs : List Loc) (ls : Array Slot) (pc : Nat) (v : Int32), some v = some res → decode cX2_sumOfWorths pc = .ok (.ireturn, 1) → va_P (dC, dI) vwCl [(a_o, .inr (2, [.int o_persons, .int o_ring, .int o_highestTold, .ref a_o_bestPlace, .ref a_o_stepCost, .ref a_o_kind, .ref a_o_likings])), (a_o_bestPlace, .inl (cI, 8, .inl o_bestPlace)), (a_o_stepCost, .inl (cI, 8, .inl o_stepCost)), (a_o_likings, .inl (cI, 64, .inl o_likings))] H → va_D A [(a_o, .inr (2, [.int o_persons, .int o_ring, .int o_highestTold, .ref a_o_bestPlace, .ref a_o_stepCost, .ref a_o_kind, .ref a_o_likings])), (a_o_bestPlace, .inl (cI, 8, .inl o_bestPlace)), (a_o_stepCost, .inl (cI, 8, .inl o_stepCost)), (a_o_likings, .inl (cI, 64, .inl o_likings))] → va_S A s.heap H locs → W p l e (headSpec (kws yX2_sumOfWorths cX2_sumOfWorths 4 (some .int)) rm_X2_sumOfWorths).room s m ([.ref a_o, .int x1] : List Value).toArray below meth c H locs 0 0 (MQ below (kQi Unit (dC, dI) A res (fun _ => [(a_o, .inr (2, [.int o_persons, .int o_ring, .int o_highestTold, .ref a_o_bestPlace, .ref a_o_stepCost, .ref a_o_kind, .ref a_o_likings])), (a_o_bestPlace, .inl (cI, 8, .inl o_bestPlace)), (a_o_stepCost, .inl (cI, 8, .inl o_stepCost)), (a_o_likings, .inl (cI, 64, .inl o_likings))])) ([.ref a_o, .int x1] : List Value).toArray s 0 0 A) (F0 m pc ls [.int v]) := by
    intro H locs ls pc v he hd hP hD hS
    obtain rfl := Option.some.inj he
    exact kri hx hb hr hlocks () hP hD hS hd
  have hl := lv_entry ([.ref a_o, .int x1]) (n := 4) (Nat.le_of_ble_eq_true rfl)
  rw [lg_entry_eq]
  generalize (lg_sl ([.ref a_o, .int x1]) ++ List.replicate (4 - (lg_sl ([.ref a_o, .int x1])).length) Slot.unset).toArray = ls at hl ⊢
  have hl : lv_has ls 4 [(0, .ref a_o), (1, .int x1)] := hl
  generalize (MQ below _ ([.ref a_o, .int x1] : List Value).toArray s 0 0 A) = Q at hret ⊢
  generalize ([.ref a_o, .int x1] : List Value).toArray = args at ht hret ⊢
  have hP : va_P (dC, dI) vwCl [(a_o, .inr (2, [.int o_persons, .int o_ring, .int o_highestTold, .ref a_o_bestPlace, .ref a_o_stepCost, .ref a_o_kind, .ref a_o_likings])), (a_o_bestPlace, .inl (cI, 8, .inl o_bestPlace)), (a_o_stepCost, .inl (cI, 8, .inl o_stepCost)), (a_o_likings, .inl (cI, 64, .inl o_likings))] s.heap := hP
  unfold f_X2_sumOfWorths at hf
  have L4 : ∀ (n : Nat) (x1 : Int32) (x2 : Int32) (x3 : Int32) (H : Heap) (locs : List Loc) (ls : Array Slot), f_X2_sumOfWorths_l4 o_persons o_ring o_bestPlace o_stepCost o_likings n x1 x2 x3 = some res → va_P (dC, dI) vwCl [(a_o, .inr (2, [.int o_persons, .int o_ring, .int o_highestTold, .ref a_o_bestPlace, .ref a_o_stepCost, .ref a_o_kind, .ref a_o_likings])), (a_o_bestPlace, .inl (cI, 8, .inl o_bestPlace)), (a_o_stepCost, .inl (cI, 8, .inl o_stepCost)), (a_o_likings, .inl (cI, 64, .inl o_likings))] H → va_D A [(a_o, .inr (2, [.int o_persons, .int o_ring, .int o_highestTold, .ref a_o_bestPlace, .ref a_o_stepCost, .ref a_o_kind, .ref a_o_likings])), (a_o_bestPlace, .inl (cI, 8, .inl o_bestPlace)), (a_o_stepCost, .inl (cI, 8, .inl o_stepCost)), (a_o_likings, .inl (cI, 64, .inl o_likings))] → va_S A s.heap H locs → lv_has ls 4 [(0, .ref a_o), (1, .int x1), (2, .int x2), (3, .int x3)] → W p l e (headSpec (kws yX2_sumOfWorths cX2_sumOfWorths 4 (some .int)) rm_X2_sumOfWorths).room s m args below meth c H locs 0 0 Q (F0 m 4 ls []) := by
    intro n
    induction n with
    | zero =>
      intro x1 x2 x3 H locs ls hf hP hD hS hl
      rw [f_X2_sumOfWorths_l4.eq_1] at hf
      cases hf
    | succ n4 ih4 =>
      intro x1 x2 x3 H locs ls hf hP hD hS hl
      rw [f_X2_sumOfWorths_l4.eq_2] at hf
      refine lv_iload_n hx hb dX2_sumOfWorths_4 rfl (lv_at hl 3 rfl) ?_
      refine lv_aload_n hx hb dX2_sumOfWorths_5 rfl (lv_at hl 0 rfl) ?_
      refine va_get (ci := 2) (v := .int o_persons) (C := RX2) (T := TX2) (N := 7) hx hb ht inX2 hown hK hP 0 rfl rfl 0 (by decide) (ht _ wd_1_54) (fun _ h9 => h9) rfl dX2_sumOfWorths_6 ?_
      refine lv_icmp_ge (tgt := 27) hx hb dX2_sumOfWorths_9 (by decide) (fun c_1 => ?_) (fun c_1 => ?_)
      · have hf := ifp c_1 hf
        refine lv_iload_n hx hb dX2_sumOfWorths_27 rfl (lv_at hl 2 rfl) ?_
        exact hret H locs ls 28 x2 hf dX2_sumOfWorths_28 hP hD hS
      · have hf := ifn c_1 hf
        refine lv_iload_n hx hb dX2_sumOfWorths_12 rfl (lv_at hl 2 rfl) ?_
        refine lv_aload_n hx hb dX2_sumOfWorths_13 rfl (lv_at hl 0 rfl) ?_
        refine lv_iload_n hx hb dX2_sumOfWorths_14 rfl (lv_at hl 1 rfl) ?_
        refine lv_iload_n hx hb dX2_sumOfWorths_15 rfl (lv_at hl 3 rfl) ?_
        obtain ⟨u_2, h_3, hf⟩ := obs hf
        refine kcVi (rest := [.int x2]) (wr := []) (w2 := fun _ => [(a_o, .inr (2, [.int o_persons, .int o_ring, .int o_highestTold, .ref a_o_bestPlace, .ref a_o_stepCost, .ref a_o_kind, .ref a_o_likings])), (a_o_bestPlace, .inl (cI, 8, .inl o_bestPlace)), (a_o_stepCost, .inl (cI, 8, .inl o_stepCost)), (a_o_likings, .inl (cI, 64, .inl o_likings))]) hx hb hml hown ht (c_X2_worthAt l dC dI cI cJ cZ a_o a_o_bestPlace a_o_stepCost a_o_kind a_o_likings H.size o_persons o_ring o_highestTold o_bestPlace o_stepCost o_likings x1 x3 u_2 h_3) (kcw 2 ht wd_2_114 wd_1_3 wd_2_111 kd_X2_worthAt ⟨rfl, rfl⟩ ⟨Nat.le_of_ble_eq_true rfl, Nat.le_of_ble_eq_true rfl⟩) wd_2_112 wd_2_113 hK hP hD hS hA [0, 1, 2, 3] [] [0, 1, 2, 3] rfl rfl rfl rfl (by decide) rfl (fun _ => rfl) (ci := 2) rfl rfl rfl rfl hl.1 rfl (Nat.le_of_ble_eq_true rfl) dX2_sumOfWorths_16 ⟨Nat.zero_le _, Nat.zero_le _⟩ (fun _ H locs hP hD hS => ?_)
        have hP : va_P (dC, dI) vwCl [(a_o, .inr (2, [.int o_persons, .int o_ring, .int o_highestTold, .ref a_o_bestPlace, .ref a_o_stepCost, .ref a_o_kind, .ref a_o_likings])), (a_o_bestPlace, .inl (cI, 8, .inl o_bestPlace)), (a_o_stepCost, .inl (cI, 8, .inl o_stepCost)), (a_o_likings, .inl (cI, 64, .inl o_likings))] H := hP
        have hD : va_D A [(a_o, .inr (2, [.int o_persons, .int o_ring, .int o_highestTold, .ref a_o_bestPlace, .ref a_o_stepCost, .ref a_o_kind, .ref a_o_likings])), (a_o_bestPlace, .inl (cI, 8, .inl o_bestPlace)), (a_o_stepCost, .inl (cI, 8, .inl o_stepCost)), (a_o_likings, .inl (cI, 64, .inl o_likings))] := hD
        refine lv_iadd hx hb dX2_sumOfWorths_19 ?_
        refine lv_istore_n (lv' := [(2, .int (x2 + u_2)), (0, .ref a_o), (1, .int x1), (3, .int x3)]) hx hb dX2_sumOfWorths_20 rfl hl (by decide) rfl (fun ls hl => ?_)
        refine lv_iinc (v := (x3 + (1 : Int32))) (lv' := [(3, .int (x3 + (1 : Int32))), (2, .int (x2 + u_2)), (0, .ref a_o), (1, .int x1)]) hx hb dX2_sumOfWorths_21 hl (k := 3) rfl rfl (by decide) rfl (fun ls hl => ?_)
        refine lv_goto (tgt := 4) hx hb dX2_sumOfWorths_24 (by decide) ?_
        exact ih4 x1 (x2 + u_2) (x3 + (1 : Int32)) H locs ls hf hP hD hS (lv_sub hl [2, 3, 1, 0] rfl)
  obtain ⟨H, hH⟩ : ∃ H, H = s.heap := ⟨_, rfl⟩
  obtain ⟨locs, hlo⟩ : ∃ L : List Loc, L = [] := ⟨_, rfl⟩
  rw [← hH] at hP
  have hS : va_S A s.heap H locs := by rw [hH, hlo]; exact hS
  rw [show W p l e (headSpec (kws yX2_sumOfWorths cX2_sumOfWorths 4 (some .int)) rm_X2_sumOfWorths).room s m args below meth c s.heap [] 0 0 Q (F0 m 0 ls []) = W p l e (headSpec (kws yX2_sumOfWorths cX2_sumOfWorths 4 (some .int)) rm_X2_sumOfWorths).room s m args below meth c H locs 0 0 Q (F0 m 0 ls []) from by rw [hH, hlo]]
  refine lv_iconst (v := (0 : Int32)) hx hb dX2_sumOfWorths_0 (by decide) ?_
  refine lv_istore_n (lv' := [(2, .int (0 : Int32)), (0, .ref a_o), (1, .int x1)]) hx hb dX2_sumOfWorths_1 rfl hl (by decide) rfl (fun ls hl => ?_)
  refine lv_iconst (v := (0 : Int32)) hx hb dX2_sumOfWorths_2 (by decide) ?_
  refine lv_istore_n (lv' := [(3, .int (0 : Int32)), (2, .int (0 : Int32)), (0, .ref a_o), (1, .int x1)]) hx hb dX2_sumOfWorths_3 rfl hl (by decide) rfl (fun ls hl => ?_)
  exact L4 NF x1 (0 : Int32) (0 : Int32) H locs ls hf hP hD hS (lv_sub hl [2, 3, 1, 0] rfl)
def f_X2_missing (x0 : Int32) (x1 : Int32) : Option (Int32) := if x0 = (0 : Int32) then some (if (0 : Int32) < ((1 : Int32) - x1) then ((1 : Int32) - x1) else (0 : Int32)) else (if x0 = (1 : Int32) then some (if (0 : Int32) < (-x1) then (-x1) else (0 : Int32)) else (if x0 = (2 : Int32) then some (if (0 : Int32) < ((10 : Int32) - x1) then ((10 : Int32) - x1) else (0 : Int32)) else (if x0 = (3 : Int32) then some (-1 : Int32) else (some (0 : Int32)))))
abbrev rm_X2_missing : Room := { frames := 1, cells := 0, slots := 0, locals := 24 }
theorem kd_X2_missing : yX2_missing.cls ≠ "java/lang/invoke/MethodHandle" ∧ yX2_missing.cls ≠ "java/lang/invoke/VarHandle" ∧ (parseMethodDescriptor yX2_missing.desc).map (fun d => d.parameters.length) = some 2 := by decide +kernel
set_option maxHeartbeats 4000000 in
set_option maxRecDepth 100000 in
theorem c_X2_missing (l : Launch) (dC : Nat → ClassId) (dI : Nat → Nat → Nat) (cI cJ cZ : ClassId) (sz : Nat) (x0 : Int32) (x1 : Int32) (res : Int32) (hf : f_X2_missing x0 x1 = some res) : kMi Unit l yX2_missing cX2_missing 2 (some .int) rm_X2_missing [.int x0, .int x1] (dC, dI) (kT cI cJ cZ) sz [] res (fun _ => []) := by
  refine Met.ofW (cc := cX2_missing) (maxL := 2) (ret := (some .int)) (by decide) rfl ?_
  intro p e s m args below meth c s₁ B hml hv
  obtain ⟨rfl, hsz, hP, hK, hD0⟩ := hv
  have hx := B.exec
  have hb := B.bytes
  have hr := B.returns
  have ht : ∀ w ∈ lw_g, w.before ([.int x0, .int x1] : List Value).toArray s = true := fun w h => atoms_spec (ws := kws yX2_missing cX2_missing 2 (some .int)) B.pre w (List.mem_cons_of_mem _ h)
  have hown : s.vm.findClass RX2 = some m.cls := findClass_of_methodNamed B.named
  have hlocks := B.notSynchronized
  subst hsz
  have hD := hD0.self (sz := s.heap.size)
  generalize hAe : va_A [] s.heap.size = A at hD ⊢
  have hA : ∀ q : Nat, s.heap.size ≤ q → A q := fun q h => by rw [← hAe]; exact Or.inr h
  have hS : va_S A s.heap s.heap [] := va_S.rf
  have hret : ∀ (H : Heap) (locs : List Loc) (ls : Array Slot) (pc : Nat) (v : Int32), some v = some res → decode cX2_missing pc = .ok (.ireturn, 1) → va_P (dC, dI) vwCl [] H → va_D A [] → va_S A s.heap H locs → W p l e (headSpec (kws yX2_missing cX2_missing 2 (some .int)) rm_X2_missing).room s m ([.int x0, .int x1] : List Value).toArray below meth c H locs 0 0 (MQ below (kQi Unit (dC, dI) A res (fun _ => [])) ([.int x0, .int x1] : List Value).toArray s 0 0 A) (F0 m pc ls [.int v]) := by
    intro H locs ls pc v he hd hP hD hS
    obtain rfl := Option.some.inj he
    exact kri hx hb hr hlocks () hP hD hS hd
  have hl := lv_entry ([.int x0, .int x1]) (n := 2) (Nat.le_of_ble_eq_true rfl)
  rw [lg_entry_eq]
  generalize (lg_sl ([.int x0, .int x1]) ++ List.replicate (2 - (lg_sl ([.int x0, .int x1])).length) Slot.unset).toArray = ls at hl ⊢
  have hl : lv_has ls 2 [(0, .int x0), (1, .int x1)] := hl
  generalize (MQ below _ ([.int x0, .int x1] : List Value).toArray s 0 0 A) = Q at hret ⊢
  generalize ([.int x0, .int x1] : List Value).toArray = args at ht hret ⊢
  have hP : va_P (dC, dI) vwCl [] s.heap := hP
  unfold f_X2_missing at hf
  obtain ⟨H, hH⟩ : ∃ H, H = s.heap := ⟨_, rfl⟩
  obtain ⟨locs, hlo⟩ : ∃ L : List Loc, L = [] := ⟨_, rfl⟩
  rw [← hH] at hP
  have hS : va_S A s.heap H locs := by rw [hH, hlo]; exact hS
  rw [show W p l e (headSpec (kws yX2_missing cX2_missing 2 (some .int)) rm_X2_missing).room s m args below meth c s.heap [] 0 0 Q (F0 m 0 ls []) = W p l e (headSpec (kws yX2_missing cX2_missing 2 (some .int)) rm_X2_missing).room s m args below meth c H locs 0 0 Q (F0 m 0 ls []) from by rw [hH, hlo]]
  refine lv_iload_n hx hb dX2_missing_0 rfl (lv_at hl 0 rfl) ?_
  by_cases c_1 : x0 = (0 : Int32)
  · have hf := ifp c_1 hf
    refine lv_tableIn (tgt := 32) hx hb dX2_missing_1 (by rw [c_1]; decide) (by rw [c_1]; decide) (by rw [c_1]; rfl) (by decide) ?_
    refine lv_iconst (v := (0 : Int32)) hx hb dX2_missing_32 (by decide) ?_
    refine lv_iconst (v := (1 : Int32)) hx hb dX2_missing_33 (by decide) ?_
    refine lv_iload_n hx hb dX2_missing_34 rfl (lv_at hl 1 rfl) ?_
    refine lv_isub hx hb dX2_missing_35 ?_
    refine va_mmax hx hb (hml.trans hl.1.symm) hown (ht _ wd_1_219) (ht _ wd_1_90) (ht _ wd_1_6) (ht _ wd_1_91) (Nat.le_of_ble_eq_true rfl) (Nat.le_of_ble_eq_true rfl) (Nat.zero_le _) (Nat.zero_le _) dX2_missing_36 ?_
    exact hret H locs ls 39 (if (0 : Int32) < ((1 : Int32) - x1) then ((1 : Int32) - x1) else (0 : Int32)) hf dX2_missing_39 hP hD hS
  · have hf := ifn c_1 hf
    by_cases c_2 : x0 = (1 : Int32)
    · have hf := ifp c_2 hf
      refine lv_tableIn (tgt := 40) hx hb dX2_missing_1 (by rw [c_2]; decide) (by rw [c_2]; decide) (by rw [c_2]; rfl) (by decide) ?_
      refine lv_iconst (v := (0 : Int32)) hx hb dX2_missing_40 (by decide) ?_
      refine lv_iload_n hx hb dX2_missing_41 rfl (lv_at hl 1 rfl) ?_
      refine lv_ineg hx hb dX2_missing_42 ?_
      refine va_mmax hx hb (hml.trans hl.1.symm) hown (ht _ wd_1_219) (ht _ wd_1_90) (ht _ wd_1_6) (ht _ wd_1_91) (Nat.le_of_ble_eq_true rfl) (Nat.le_of_ble_eq_true rfl) (Nat.zero_le _) (Nat.zero_le _) dX2_missing_43 ?_
      exact hret H locs ls 46 (if (0 : Int32) < (-x1) then (-x1) else (0 : Int32)) hf dX2_missing_46 hP hD hS
    · have hf := ifn c_2 hf
      by_cases c_3 : x0 = (2 : Int32)
      · have hf := ifp c_3 hf
        refine lv_tableIn (tgt := 47) hx hb dX2_missing_1 (by rw [c_3]; decide) (by rw [c_3]; decide) (by rw [c_3]; rfl) (by decide) ?_
        refine lv_iconst (v := (0 : Int32)) hx hb dX2_missing_47 (by decide) ?_
        refine lv_bipush (v := (10 : Int32)) hx hb dX2_missing_48 (by decide) ?_
        refine lv_iload_n hx hb dX2_missing_50 rfl (lv_at hl 1 rfl) ?_
        refine lv_isub hx hb dX2_missing_51 ?_
        refine va_mmax hx hb (hml.trans hl.1.symm) hown (ht _ wd_1_219) (ht _ wd_1_90) (ht _ wd_1_6) (ht _ wd_1_91) (Nat.le_of_ble_eq_true rfl) (Nat.le_of_ble_eq_true rfl) (Nat.zero_le _) (Nat.zero_le _) dX2_missing_52 ?_
        exact hret H locs ls 55 (if (0 : Int32) < ((10 : Int32) - x1) then ((10 : Int32) - x1) else (0 : Int32)) hf dX2_missing_55 hP hD hS
      · have hf := ifn c_3 hf
        by_cases c_4 : x0 = (3 : Int32)
        · have hf := ifp c_4 hf
          refine lv_tableIn (tgt := 56) hx hb dX2_missing_1 (by rw [c_4]; decide) (by rw [c_4]; decide) (by rw [c_4]; rfl) (by decide) ?_
          refine lv_iconst (v := (-1 : Int32)) hx hb dX2_missing_56 (by decide) ?_
          exact hret H locs ls 57 (-1 : Int32) hf dX2_missing_57 hP hD hS
        · have hf := ifn c_4 hf
          refine lv_tableOut (tgt := 58) hx hb dX2_missing_1 (sw_out3 c_1 c_2 c_3 c_4) (by decide) ?_
          refine lv_iconst (v := (0 : Int32)) hx hb dX2_missing_58 (by decide) ?_
          exact hret H locs ls 59 (0 : Int32) hf dX2_missing_59 hP hD hS
def f_X2_agrees (x1 : Int32) (x2 : Int32) (x3 : Int32) (x4 : Int32) (o_persons : Int32) (o_ring : Int32) (o_bestPlace : Nat → Int32) (o_stepCost : Nat → Int32) (o_kind : Nat → Int32) (o_likings : Nat → Int32) : Option (Int32) := Option.bind (f_X2_worthAt x2 x4 o_persons o_ring o_bestPlace o_stepCost o_likings) (fun u_1 => Option.bind (f_X2_worthAt x1 x3 o_persons o_ring o_bestPlace o_stepCost o_likings) (fun u_3 => Option.bind (f_X4_who x1 x3) (fun u_5 => bd u_5 8 (Option.bind (f_X2_missing (o_kind u_5.toNatClampNeg) (u_1 - u_3)) (fun u_8 => if u_8 = 0 then some (1 : Int32) else some (0 : Int32))))))
abbrev rm_X2_agrees : Room := { frames := 2, cells := 0, slots := 0, locals := 49 }
theorem kd_X2_agrees : yX2_agrees.cls ≠ "java/lang/invoke/MethodHandle" ∧ yX2_agrees.cls ≠ "java/lang/invoke/VarHandle" ∧ (parseMethodDescriptor yX2_agrees.desc).map (fun d => d.parameters.length) = some 4 := by decide +kernel
set_option maxHeartbeats 4000000 in
set_option maxRecDepth 100000 in
theorem c_X2_agrees (l : Launch) (dC : Nat → ClassId) (dI : Nat → Nat → Nat) (cI cJ cZ : ClassId) (a_o a_o_bestPlace a_o_stepCost a_o_kind a_o_likings : Nat) (sz : Nat) (o_persons : Int32) (o_ring : Int32) (o_highestTold : Int32) (o_bestPlace : Nat → Int32) (o_stepCost : Nat → Int32) (o_kind : Nat → Int32) (o_likings : Nat → Int32) (x1 : Int32) (x2 : Int32) (x3 : Int32) (x4 : Int32) (res : Int32) (hf : f_X2_agrees x1 x2 x3 x4 o_persons o_ring o_bestPlace o_stepCost o_kind o_likings = some res) : kMi Unit l yX2_agrees cX2_agrees 6 (some .boolean) rm_X2_agrees [.ref a_o, .int x1, .int x2, .int x3, .int x4] (dC, dI) (kT cI cJ cZ) sz [(a_o, .inr (2, [.int o_persons, .int o_ring, .int o_highestTold, .ref a_o_bestPlace, .ref a_o_stepCost, .ref a_o_kind, .ref a_o_likings])), (a_o_bestPlace, .inl (cI, 8, .inl o_bestPlace)), (a_o_stepCost, .inl (cI, 8, .inl o_stepCost)), (a_o_kind, .inl (cI, 8, .inl o_kind)), (a_o_likings, .inl (cI, 64, .inl o_likings))] res (fun _ => [(a_o, .inr (2, [.int o_persons, .int o_ring, .int o_highestTold, .ref a_o_bestPlace, .ref a_o_stepCost, .ref a_o_kind, .ref a_o_likings])), (a_o_bestPlace, .inl (cI, 8, .inl o_bestPlace)), (a_o_stepCost, .inl (cI, 8, .inl o_stepCost)), (a_o_kind, .inl (cI, 8, .inl o_kind)), (a_o_likings, .inl (cI, 64, .inl o_likings))]) := by
  refine Met.ofW (cc := cX2_agrees) (maxL := 6) (ret := (some .boolean)) (by decide) rfl ?_
  intro p e s m args below meth c s₁ B hml hv
  obtain ⟨rfl, hsz, hP, hK, hD0⟩ := hv
  have hx := B.exec
  have hb := B.bytes
  have hr := B.returns
  have ht : ∀ w ∈ lw_g, w.before ([.ref a_o, .int x1, .int x2, .int x3, .int x4] : List Value).toArray s = true := fun w h => atoms_spec (ws := kws yX2_agrees cX2_agrees 6 (some .boolean)) B.pre w (List.mem_cons_of_mem _ h)
  have hown : s.vm.findClass RX2 = some m.cls := findClass_of_methodNamed B.named
  have hlocks := B.notSynchronized
  subst hsz
  have hD := hD0.self (sz := s.heap.size)
  generalize hAe : va_A [(a_o, .inr (2, [.int o_persons, .int o_ring, .int o_highestTold, .ref a_o_bestPlace, .ref a_o_stepCost, .ref a_o_kind, .ref a_o_likings])), (a_o_bestPlace, .inl (cI, 8, .inl o_bestPlace)), (a_o_stepCost, .inl (cI, 8, .inl o_stepCost)), (a_o_kind, .inl (cI, 8, .inl o_kind)), (a_o_likings, .inl (cI, 64, .inl o_likings))] s.heap.size = A at hD ⊢
  have hA : ∀ q : Nat, s.heap.size ≤ q → A q := fun q h => by rw [← hAe]; exact Or.inr h
  have hS : va_S A s.heap s.heap [] := va_S.rf
  have hret : ∀ (H : Heap) (locs : List Loc) (ls : Array Slot) (pc : Nat) (v : Int32), some v = some res → (v = 0 ∨ v = 1) → decode cX2_agrees pc = .ok (.ireturn, 1) → va_P (dC, dI) vwCl [(a_o, .inr (2, [.int o_persons, .int o_ring, .int o_highestTold, .ref a_o_bestPlace, .ref a_o_stepCost, .ref a_o_kind, .ref a_o_likings])), (a_o_bestPlace, .inl (cI, 8, .inl o_bestPlace)), (a_o_stepCost, .inl (cI, 8, .inl o_stepCost)), (a_o_kind, .inl (cI, 8, .inl o_kind)), (a_o_likings, .inl (cI, 64, .inl o_likings))] H → va_D A [(a_o, .inr (2, [.int o_persons, .int o_ring, .int o_highestTold, .ref a_o_bestPlace, .ref a_o_stepCost, .ref a_o_kind, .ref a_o_likings])), (a_o_bestPlace, .inl (cI, 8, .inl o_bestPlace)), (a_o_stepCost, .inl (cI, 8, .inl o_stepCost)), (a_o_kind, .inl (cI, 8, .inl o_kind)), (a_o_likings, .inl (cI, 64, .inl o_likings))] → va_S A s.heap H locs → W p l e (headSpec (kws yX2_agrees cX2_agrees 6 (some .boolean)) rm_X2_agrees).room s m ([.ref a_o, .int x1, .int x2, .int x3, .int x4] : List Value).toArray below meth c H locs 0 0 (MQ below (kQi Unit (dC, dI) A res (fun _ => [(a_o, .inr (2, [.int o_persons, .int o_ring, .int o_highestTold, .ref a_o_bestPlace, .ref a_o_stepCost, .ref a_o_kind, .ref a_o_likings])), (a_o_bestPlace, .inl (cI, 8, .inl o_bestPlace)), (a_o_stepCost, .inl (cI, 8, .inl o_stepCost)), (a_o_kind, .inl (cI, 8, .inl o_kind)), (a_o_likings, .inl (cI, 64, .inl o_likings))])) ([.ref a_o, .int x1, .int x2, .int x3, .int x4] : List Value).toArray s 0 0 A) (F0 m pc ls [.int v]) := by
    intro H locs ls pc v he hz hd hP hD hS
    obtain rfl := Option.some.inj he
    exact krz hx hb hr hlocks () hz hP hD hS hd
  have hl := lv_entry ([.ref a_o, .int x1, .int x2, .int x3, .int x4]) (n := 6) (Nat.le_of_ble_eq_true rfl)
  rw [lg_entry_eq]
  generalize (lg_sl ([.ref a_o, .int x1, .int x2, .int x3, .int x4]) ++ List.replicate (6 - (lg_sl ([.ref a_o, .int x1, .int x2, .int x3, .int x4])).length) Slot.unset).toArray = ls at hl ⊢
  have hl : lv_has ls 6 [(0, .ref a_o), (1, .int x1), (2, .int x2), (3, .int x3), (4, .int x4)] := hl
  generalize (MQ below _ ([.ref a_o, .int x1, .int x2, .int x3, .int x4] : List Value).toArray s 0 0 A) = Q at hret ⊢
  generalize ([.ref a_o, .int x1, .int x2, .int x3, .int x4] : List Value).toArray = args at ht hret ⊢
  have hP : va_P (dC, dI) vwCl [(a_o, .inr (2, [.int o_persons, .int o_ring, .int o_highestTold, .ref a_o_bestPlace, .ref a_o_stepCost, .ref a_o_kind, .ref a_o_likings])), (a_o_bestPlace, .inl (cI, 8, .inl o_bestPlace)), (a_o_stepCost, .inl (cI, 8, .inl o_stepCost)), (a_o_kind, .inl (cI, 8, .inl o_kind)), (a_o_likings, .inl (cI, 64, .inl o_likings))] s.heap := hP
  unfold f_X2_agrees at hf
  obtain ⟨H, hH⟩ : ∃ H, H = s.heap := ⟨_, rfl⟩
  obtain ⟨locs, hlo⟩ : ∃ L : List Loc, L = [] := ⟨_, rfl⟩
  rw [← hH] at hP
  have hS : va_S A s.heap H locs := by rw [hH, hlo]; exact hS
  rw [show W p l e (headSpec (kws yX2_agrees cX2_agrees 6 (some .boolean)) rm_X2_agrees).room s m args below meth c s.heap [] 0 0 Q (F0 m 0 ls []) = W p l e (headSpec (kws yX2_agrees cX2_agrees 6 (some .boolean)) rm_X2_agrees).room s m args below meth c H locs 0 0 Q (F0 m 0 ls []) from by rw [hH, hlo]]
  refine lv_aload_n hx hb dX2_agrees_0 rfl (lv_at hl 0 rfl) ?_
  refine lv_iload_n hx hb dX2_agrees_1 rfl (lv_at hl 2 rfl) ?_
  refine lv_iload hx hb dX2_agrees_2 (lv_at hl 4 rfl) ?_
  obtain ⟨u_1, h_2, hf⟩ := obs hf
  refine kcVi (rest := []) (wr := [(a_o_kind, .inl (cI, 8, .inl o_kind))]) (w2 := fun _ => [(a_o, .inr (2, [.int o_persons, .int o_ring, .int o_highestTold, .ref a_o_bestPlace, .ref a_o_stepCost, .ref a_o_kind, .ref a_o_likings])), (a_o_bestPlace, .inl (cI, 8, .inl o_bestPlace)), (a_o_stepCost, .inl (cI, 8, .inl o_stepCost)), (a_o_kind, .inl (cI, 8, .inl o_kind)), (a_o_likings, .inl (cI, 64, .inl o_likings))]) hx hb hml hown ht (c_X2_worthAt l dC dI cI cJ cZ a_o a_o_bestPlace a_o_stepCost a_o_kind a_o_likings H.size o_persons o_ring o_highestTold o_bestPlace o_stepCost o_likings x2 x4 u_1 h_2) (kcw 2 ht wd_2_114 wd_1_3 wd_2_111 kd_X2_worthAt ⟨rfl, rfl⟩ ⟨Nat.le_of_ble_eq_true rfl, Nat.le_of_ble_eq_true rfl⟩) wd_2_112 wd_2_113 hK hP hD hS hA [0, 1, 2, 4] [3] [1, 2, 3, 0, 4] rfl rfl rfl rfl (by decide) rfl (fun _ => rfl) (ci := 2) rfl rfl rfl rfl hl.1 rfl (Nat.le_of_ble_eq_true rfl) dX2_agrees_4 ⟨Nat.zero_le _, Nat.zero_le _⟩ (fun _ H locs hP hD hS => ?_)
  have hP : va_P (dC, dI) vwCl [(a_o, .inr (2, [.int o_persons, .int o_ring, .int o_highestTold, .ref a_o_bestPlace, .ref a_o_stepCost, .ref a_o_kind, .ref a_o_likings])), (a_o_bestPlace, .inl (cI, 8, .inl o_bestPlace)), (a_o_stepCost, .inl (cI, 8, .inl o_stepCost)), (a_o_kind, .inl (cI, 8, .inl o_kind)), (a_o_likings, .inl (cI, 64, .inl o_likings))] H := hP
  have hD : va_D A [(a_o, .inr (2, [.int o_persons, .int o_ring, .int o_highestTold, .ref a_o_bestPlace, .ref a_o_stepCost, .ref a_o_kind, .ref a_o_likings])), (a_o_bestPlace, .inl (cI, 8, .inl o_bestPlace)), (a_o_stepCost, .inl (cI, 8, .inl o_stepCost)), (a_o_kind, .inl (cI, 8, .inl o_kind)), (a_o_likings, .inl (cI, 64, .inl o_likings))] := hD
  refine lv_aload_n hx hb dX2_agrees_7 rfl (lv_at hl 0 rfl) ?_
  refine lv_iload_n hx hb dX2_agrees_8 rfl (lv_at hl 1 rfl) ?_
  refine lv_iload_n hx hb dX2_agrees_9 rfl (lv_at hl 3 rfl) ?_
  obtain ⟨u_3, h_4, hf⟩ := obs hf
  refine kcVi (rest := [.int u_1]) (wr := [(a_o_kind, .inl (cI, 8, .inl o_kind))]) (w2 := fun _ => [(a_o, .inr (2, [.int o_persons, .int o_ring, .int o_highestTold, .ref a_o_bestPlace, .ref a_o_stepCost, .ref a_o_kind, .ref a_o_likings])), (a_o_bestPlace, .inl (cI, 8, .inl o_bestPlace)), (a_o_stepCost, .inl (cI, 8, .inl o_stepCost)), (a_o_kind, .inl (cI, 8, .inl o_kind)), (a_o_likings, .inl (cI, 64, .inl o_likings))]) hx hb hml hown ht (c_X2_worthAt l dC dI cI cJ cZ a_o a_o_bestPlace a_o_stepCost a_o_kind a_o_likings H.size o_persons o_ring o_highestTold o_bestPlace o_stepCost o_likings x1 x3 u_3 h_4) (kcw 2 ht wd_2_114 wd_1_3 wd_2_111 kd_X2_worthAt ⟨rfl, rfl⟩ ⟨Nat.le_of_ble_eq_true rfl, Nat.le_of_ble_eq_true rfl⟩) wd_2_112 wd_2_113 hK hP hD hS hA [0, 1, 2, 4] [3] [1, 2, 3, 0, 4] rfl rfl rfl rfl (by decide) rfl (fun _ => rfl) (ci := 2) rfl rfl rfl rfl hl.1 rfl (Nat.le_of_ble_eq_true rfl) dX2_agrees_10 ⟨Nat.zero_le _, Nat.zero_le _⟩ (fun _ H locs hP hD hS => ?_)
  have hP : va_P (dC, dI) vwCl [(a_o, .inr (2, [.int o_persons, .int o_ring, .int o_highestTold, .ref a_o_bestPlace, .ref a_o_stepCost, .ref a_o_kind, .ref a_o_likings])), (a_o_bestPlace, .inl (cI, 8, .inl o_bestPlace)), (a_o_stepCost, .inl (cI, 8, .inl o_stepCost)), (a_o_kind, .inl (cI, 8, .inl o_kind)), (a_o_likings, .inl (cI, 64, .inl o_likings))] H := hP
  have hD : va_D A [(a_o, .inr (2, [.int o_persons, .int o_ring, .int o_highestTold, .ref a_o_bestPlace, .ref a_o_stepCost, .ref a_o_kind, .ref a_o_likings])), (a_o_bestPlace, .inl (cI, 8, .inl o_bestPlace)), (a_o_stepCost, .inl (cI, 8, .inl o_stepCost)), (a_o_kind, .inl (cI, 8, .inl o_kind)), (a_o_likings, .inl (cI, 64, .inl o_likings))] := hD
  refine lv_isub hx hb dX2_agrees_13 ?_
  refine lv_istore (lv' := [(5, .int (u_1 - u_3)), (0, .ref a_o), (1, .int x1), (2, .int x2), (3, .int x3), (4, .int x4)]) hx hb dX2_agrees_14 hl (by decide) rfl (fun ls hl => ?_)
  refine lv_aload_n hx hb dX2_agrees_16 rfl (lv_at hl 1 rfl) ?_
  refine va_get (ci := 2) (v := .ref a_o_kind) (C := RX2) (T := TX2) (N := 7) hx hb ht inX2 hown hK hP 0 rfl rfl 5 (by decide) (ht _ wd_1_64) (fun _ h9 => h9) rfl dX2_agrees_17 ?_
  refine lv_iload_n hx hb dX2_agrees_20 rfl (lv_at hl 2 rfl) ?_
  refine lv_iload_n hx hb dX2_agrees_21 rfl (lv_at hl 4 rfl) ?_
  obtain ⟨u_5, h_6, hf⟩ := obs hf
  refine kcSi (rest := [.ref a_o_kind]) (wr := [(a_o, .inr (2, [.int o_persons, .int o_ring, .int o_highestTold, .ref a_o_bestPlace, .ref a_o_stepCost, .ref a_o_kind, .ref a_o_likings])), (a_o_bestPlace, .inl (cI, 8, .inl o_bestPlace)), (a_o_stepCost, .inl (cI, 8, .inl o_stepCost)), (a_o_kind, .inl (cI, 8, .inl o_kind)), (a_o_likings, .inl (cI, 64, .inl o_likings))]) (w2 := fun _ => [(a_o, .inr (2, [.int o_persons, .int o_ring, .int o_highestTold, .ref a_o_bestPlace, .ref a_o_stepCost, .ref a_o_kind, .ref a_o_likings])), (a_o_bestPlace, .inl (cI, 8, .inl o_bestPlace)), (a_o_stepCost, .inl (cI, 8, .inl o_stepCost)), (a_o_kind, .inl (cI, 8, .inl o_kind)), (a_o_likings, .inl (cI, 64, .inl o_likings))]) hx hb hml hown ht (c_X4_who l dC dI cI cJ cZ H.size x1 x3 u_5 h_6) (kcw 2 ht wd_2_93 wd_1_12 wd_2_115 kd_X4_who ⟨rfl, rfl⟩ ⟨Nat.le_of_ble_eq_true rfl, Nat.le_of_ble_eq_true rfl⟩) wd_2_92 hK hP hD hS hA [] [0, 1, 2, 3, 4] [0, 1, 2, 3, 4] rfl rfl rfl rfl (by decide) rfl (fun _ => rfl) rfl hl.1 rfl (Nat.le_of_ble_eq_true rfl) dX2_agrees_22 ⟨Nat.zero_le _, Nat.zero_le _⟩ (fun _ H locs hP hD hS => ?_)
  have hP : va_P (dC, dI) vwCl [(a_o, .inr (2, [.int o_persons, .int o_ring, .int o_highestTold, .ref a_o_bestPlace, .ref a_o_stepCost, .ref a_o_kind, .ref a_o_likings])), (a_o_bestPlace, .inl (cI, 8, .inl o_bestPlace)), (a_o_stepCost, .inl (cI, 8, .inl o_stepCost)), (a_o_kind, .inl (cI, 8, .inl o_kind)), (a_o_likings, .inl (cI, 64, .inl o_likings))] H := hP
  have hD : va_D A [(a_o, .inr (2, [.int o_persons, .int o_ring, .int o_highestTold, .ref a_o_bestPlace, .ref a_o_stepCost, .ref a_o_kind, .ref a_o_likings])), (a_o_bestPlace, .inl (cI, 8, .inl o_bestPlace)), (a_o_stepCost, .inl (cI, 8, .inl o_stepCost)), (a_o_kind, .inl (cI, 8, .inl o_kind)), (a_o_likings, .inl (cI, 64, .inl o_likings))] := hD
  obtain ⟨b_7, hf⟩ := bd_some hf
  refine va_iald hx hb hK hP 3 0 rfl rfl b_7 dX2_agrees_25 ?_
  refine lv_iload hx hb dX2_agrees_26 (lv_at hl 0 rfl) ?_
  obtain ⟨u_8, h_9, hf⟩ := obs hf
  refine kcSi (rest := []) (wr := [(a_o, .inr (2, [.int o_persons, .int o_ring, .int o_highestTold, .ref a_o_bestPlace, .ref a_o_stepCost, .ref a_o_kind, .ref a_o_likings])), (a_o_bestPlace, .inl (cI, 8, .inl o_bestPlace)), (a_o_stepCost, .inl (cI, 8, .inl o_stepCost)), (a_o_kind, .inl (cI, 8, .inl o_kind)), (a_o_likings, .inl (cI, 64, .inl o_likings))]) (w2 := fun _ => [(a_o, .inr (2, [.int o_persons, .int o_ring, .int o_highestTold, .ref a_o_bestPlace, .ref a_o_stepCost, .ref a_o_kind, .ref a_o_likings])), (a_o_bestPlace, .inl (cI, 8, .inl o_bestPlace)), (a_o_stepCost, .inl (cI, 8, .inl o_stepCost)), (a_o_kind, .inl (cI, 8, .inl o_kind)), (a_o_likings, .inl (cI, 64, .inl o_likings))]) hx hb hml hown ht (c_X2_missing l dC dI cI cJ cZ H.size (o_kind u_5.toNatClampNeg) (u_1 - u_3) u_8 h_9) (kcw 2 ht wd_2_163 wd_1_3 wd_2_161 kd_X2_missing ⟨rfl, rfl⟩ ⟨Nat.le_of_ble_eq_true rfl, Nat.le_of_ble_eq_true rfl⟩) wd_2_162 hK hP hD hS hA [] [0, 1, 2, 3, 4] [0, 1, 2, 3, 4] rfl rfl rfl rfl (by decide) rfl (fun _ => rfl) rfl hl.1 rfl (Nat.le_of_ble_eq_true rfl) dX2_agrees_28 ⟨Nat.zero_le _, Nat.zero_le _⟩ (fun _ H locs hP hD hS => ?_)
  have hP : va_P (dC, dI) vwCl [(a_o, .inr (2, [.int o_persons, .int o_ring, .int o_highestTold, .ref a_o_bestPlace, .ref a_o_stepCost, .ref a_o_kind, .ref a_o_likings])), (a_o_bestPlace, .inl (cI, 8, .inl o_bestPlace)), (a_o_stepCost, .inl (cI, 8, .inl o_stepCost)), (a_o_kind, .inl (cI, 8, .inl o_kind)), (a_o_likings, .inl (cI, 64, .inl o_likings))] H := hP
  have hD : va_D A [(a_o, .inr (2, [.int o_persons, .int o_ring, .int o_highestTold, .ref a_o_bestPlace, .ref a_o_stepCost, .ref a_o_kind, .ref a_o_likings])), (a_o_bestPlace, .inl (cI, 8, .inl o_bestPlace)), (a_o_stepCost, .inl (cI, 8, .inl o_stepCost)), (a_o_kind, .inl (cI, 8, .inl o_kind)), (a_o_likings, .inl (cI, 64, .inl o_likings))] := hD
  refine lv_if_ne (tgt := 38) hx hb dX2_agrees_31 (by decide) (fun c_10 => ?_) (fun c_10 => ?_)
  · have hf := ifn c_10 hf
    refine lv_iconst (v := (0 : Int32)) hx hb dX2_agrees_38 (by decide) ?_
    exact hret H locs ls 39 (0 : Int32) hf (Or.inl rfl) dX2_agrees_39 hP hD hS
  · have hf := ifp c_10 hf
    refine lv_iconst (v := (1 : Int32)) hx hb dX2_agrees_34 (by decide) ?_
    refine lv_goto (tgt := 39) hx hb dX2_agrees_35 (by decide) ?_
    exact hret H locs ls 39 (1 : Int32) hf (Or.inr rfl) dX2_agrees_39 hP hD hS
def f_X2_changeSuits (x1 : Int32) (x2 : Int32) (o_persons : Int32) (o_ring : Int32) (o_bestPlace : Nat → Int32) (o_stepCost : Nat → Int32) (o_kind : Nat → Int32) (o_likings : Nat → Int32) : Option (Int32) := Option.bind (f_X2_after x2 o_persons) (fun u_1 => Option.bind (f_X2_changed x1 x2 o_persons) (fun u_3 => Option.bind (f_X2_agrees x1 u_3 x2 u_1 o_persons o_ring o_bestPlace o_stepCost o_kind o_likings) (fun u_5 => if u_5 = 0 then some (0 : Int32) else Option.bind (f_X2_agrees x1 u_3 u_1 x2 o_persons o_ring o_bestPlace o_stepCost o_kind o_likings) (fun u_8 => if u_8 = 0 then some (0 : Int32) else some (1 : Int32)))))
abbrev rm_X2_changeSuits : Room := { frames := 3, cells := 0, slots := 0, locals := 74 }
theorem kd_X2_changeSuits : yX2_changeSuits.cls ≠ "java/lang/invoke/MethodHandle" ∧ yX2_changeSuits.cls ≠ "java/lang/invoke/VarHandle" ∧ (parseMethodDescriptor yX2_changeSuits.desc).map (fun d => d.parameters.length) = some 2 := by decide +kernel
set_option maxHeartbeats 4000000 in
set_option maxRecDepth 100000 in
theorem c_X2_changeSuits (l : Launch) (dC : Nat → ClassId) (dI : Nat → Nat → Nat) (cI cJ cZ : ClassId) (a_o a_o_bestPlace a_o_stepCost a_o_kind a_o_likings : Nat) (sz : Nat) (o_persons : Int32) (o_ring : Int32) (o_highestTold : Int32) (o_bestPlace : Nat → Int32) (o_stepCost : Nat → Int32) (o_kind : Nat → Int32) (o_likings : Nat → Int32) (x1 : Int32) (x2 : Int32) (res : Int32) (hf : f_X2_changeSuits x1 x2 o_persons o_ring o_bestPlace o_stepCost o_kind o_likings = some res) : kMi Unit l yX2_changeSuits cX2_changeSuits 5 (some .boolean) rm_X2_changeSuits [.ref a_o, .int x1, .int x2] (dC, dI) (kT cI cJ cZ) sz [(a_o, .inr (2, [.int o_persons, .int o_ring, .int o_highestTold, .ref a_o_bestPlace, .ref a_o_stepCost, .ref a_o_kind, .ref a_o_likings])), (a_o_bestPlace, .inl (cI, 8, .inl o_bestPlace)), (a_o_stepCost, .inl (cI, 8, .inl o_stepCost)), (a_o_kind, .inl (cI, 8, .inl o_kind)), (a_o_likings, .inl (cI, 64, .inl o_likings))] res (fun _ => [(a_o, .inr (2, [.int o_persons, .int o_ring, .int o_highestTold, .ref a_o_bestPlace, .ref a_o_stepCost, .ref a_o_kind, .ref a_o_likings])), (a_o_bestPlace, .inl (cI, 8, .inl o_bestPlace)), (a_o_stepCost, .inl (cI, 8, .inl o_stepCost)), (a_o_kind, .inl (cI, 8, .inl o_kind)), (a_o_likings, .inl (cI, 64, .inl o_likings))]) := by
  refine Met.ofW (cc := cX2_changeSuits) (maxL := 5) (ret := (some .boolean)) (by decide) rfl ?_
  intro p e s m args below meth c s₁ B hml hv
  obtain ⟨rfl, hsz, hP, hK, hD0⟩ := hv
  have hx := B.exec
  have hb := B.bytes
  have hr := B.returns
  have ht : ∀ w ∈ lw_g, w.before ([.ref a_o, .int x1, .int x2] : List Value).toArray s = true := fun w h => atoms_spec (ws := kws yX2_changeSuits cX2_changeSuits 5 (some .boolean)) B.pre w (List.mem_cons_of_mem _ h)
  have hown : s.vm.findClass RX2 = some m.cls := findClass_of_methodNamed B.named
  have hlocks := B.notSynchronized
  subst hsz
  have hD := hD0.self (sz := s.heap.size)
  generalize hAe : va_A [(a_o, .inr (2, [.int o_persons, .int o_ring, .int o_highestTold, .ref a_o_bestPlace, .ref a_o_stepCost, .ref a_o_kind, .ref a_o_likings])), (a_o_bestPlace, .inl (cI, 8, .inl o_bestPlace)), (a_o_stepCost, .inl (cI, 8, .inl o_stepCost)), (a_o_kind, .inl (cI, 8, .inl o_kind)), (a_o_likings, .inl (cI, 64, .inl o_likings))] s.heap.size = A at hD ⊢
  have hA : ∀ q : Nat, s.heap.size ≤ q → A q := fun q h => by rw [← hAe]; exact Or.inr h
  have hS : va_S A s.heap s.heap [] := va_S.rf
  have hret : ∀ (H : Heap) (locs : List Loc) (ls : Array Slot) (pc : Nat) (v : Int32), some v = some res → (v = 0 ∨ v = 1) → decode cX2_changeSuits pc = .ok (.ireturn, 1) → va_P (dC, dI) vwCl [(a_o, .inr (2, [.int o_persons, .int o_ring, .int o_highestTold, .ref a_o_bestPlace, .ref a_o_stepCost, .ref a_o_kind, .ref a_o_likings])), (a_o_bestPlace, .inl (cI, 8, .inl o_bestPlace)), (a_o_stepCost, .inl (cI, 8, .inl o_stepCost)), (a_o_kind, .inl (cI, 8, .inl o_kind)), (a_o_likings, .inl (cI, 64, .inl o_likings))] H → va_D A [(a_o, .inr (2, [.int o_persons, .int o_ring, .int o_highestTold, .ref a_o_bestPlace, .ref a_o_stepCost, .ref a_o_kind, .ref a_o_likings])), (a_o_bestPlace, .inl (cI, 8, .inl o_bestPlace)), (a_o_stepCost, .inl (cI, 8, .inl o_stepCost)), (a_o_kind, .inl (cI, 8, .inl o_kind)), (a_o_likings, .inl (cI, 64, .inl o_likings))] → va_S A s.heap H locs → W p l e (headSpec (kws yX2_changeSuits cX2_changeSuits 5 (some .boolean)) rm_X2_changeSuits).room s m ([.ref a_o, .int x1, .int x2] : List Value).toArray below meth c H locs 0 0 (MQ below (kQi Unit (dC, dI) A res (fun _ => [(a_o, .inr (2, [.int o_persons, .int o_ring, .int o_highestTold, .ref a_o_bestPlace, .ref a_o_stepCost, .ref a_o_kind, .ref a_o_likings])), (a_o_bestPlace, .inl (cI, 8, .inl o_bestPlace)), (a_o_stepCost, .inl (cI, 8, .inl o_stepCost)), (a_o_kind, .inl (cI, 8, .inl o_kind)), (a_o_likings, .inl (cI, 64, .inl o_likings))])) ([.ref a_o, .int x1, .int x2] : List Value).toArray s 0 0 A) (F0 m pc ls [.int v]) := by
    intro H locs ls pc v he hz hd hP hD hS
    obtain rfl := Option.some.inj he
    exact krz hx hb hr hlocks () hz hP hD hS hd
  have hl := lv_entry ([.ref a_o, .int x1, .int x2]) (n := 5) (Nat.le_of_ble_eq_true rfl)
  rw [lg_entry_eq]
  generalize (lg_sl ([.ref a_o, .int x1, .int x2]) ++ List.replicate (5 - (lg_sl ([.ref a_o, .int x1, .int x2])).length) Slot.unset).toArray = ls at hl ⊢
  have hl : lv_has ls 5 [(0, .ref a_o), (1, .int x1), (2, .int x2)] := hl
  generalize (MQ below _ ([.ref a_o, .int x1, .int x2] : List Value).toArray s 0 0 A) = Q at hret ⊢
  generalize ([.ref a_o, .int x1, .int x2] : List Value).toArray = args at ht hret ⊢
  have hP : va_P (dC, dI) vwCl [(a_o, .inr (2, [.int o_persons, .int o_ring, .int o_highestTold, .ref a_o_bestPlace, .ref a_o_stepCost, .ref a_o_kind, .ref a_o_likings])), (a_o_bestPlace, .inl (cI, 8, .inl o_bestPlace)), (a_o_stepCost, .inl (cI, 8, .inl o_stepCost)), (a_o_kind, .inl (cI, 8, .inl o_kind)), (a_o_likings, .inl (cI, 64, .inl o_likings))] s.heap := hP
  unfold f_X2_changeSuits at hf
  obtain ⟨H, hH⟩ : ∃ H, H = s.heap := ⟨_, rfl⟩
  obtain ⟨locs, hlo⟩ : ∃ L : List Loc, L = [] := ⟨_, rfl⟩
  rw [← hH] at hP
  have hS : va_S A s.heap H locs := by rw [hH, hlo]; exact hS
  rw [show W p l e (headSpec (kws yX2_changeSuits cX2_changeSuits 5 (some .boolean)) rm_X2_changeSuits).room s m args below meth c s.heap [] 0 0 Q (F0 m 0 ls []) = W p l e (headSpec (kws yX2_changeSuits cX2_changeSuits 5 (some .boolean)) rm_X2_changeSuits).room s m args below meth c H locs 0 0 Q (F0 m 0 ls []) from by rw [hH, hlo]]
  refine lv_aload_n hx hb dX2_changeSuits_0 rfl (lv_at hl 0 rfl) ?_
  refine lv_iload_n hx hb dX2_changeSuits_1 rfl (lv_at hl 2 rfl) ?_
  obtain ⟨u_1, h_2, hf⟩ := obs hf
  refine kcVi (rest := []) (wr := [(a_o_bestPlace, .inl (cI, 8, .inl o_bestPlace)), (a_o_stepCost, .inl (cI, 8, .inl o_stepCost)), (a_o_kind, .inl (cI, 8, .inl o_kind)), (a_o_likings, .inl (cI, 64, .inl o_likings))]) (w2 := fun _ => [(a_o, .inr (2, [.int o_persons, .int o_ring, .int o_highestTold, .ref a_o_bestPlace, .ref a_o_stepCost, .ref a_o_kind, .ref a_o_likings])), (a_o_bestPlace, .inl (cI, 8, .inl o_bestPlace)), (a_o_stepCost, .inl (cI, 8, .inl o_stepCost)), (a_o_kind, .inl (cI, 8, .inl o_kind)), (a_o_likings, .inl (cI, 64, .inl o_likings))]) hx hb hml hown ht (c_X2_after l dC dI cI cJ cZ a_o a_o_bestPlace a_o_stepCost a_o_kind a_o_likings H.size o_persons o_ring o_highestTold x2 u_1 h_2) (kcw 1 ht wd_2_119 wd_1_3 wd_2_116 kd_X2_after ⟨rfl, rfl⟩ ⟨Nat.le_of_ble_eq_true rfl, Nat.le_of_ble_eq_true rfl⟩) wd_2_117 wd_2_118 hK hP hD hS hA [0] [1, 2, 3, 4] [4, 0, 1, 2, 3] rfl rfl rfl rfl (by decide) rfl (fun _ => rfl) (ci := 2) rfl rfl rfl rfl hl.1 rfl (Nat.le_of_ble_eq_true rfl) dX2_changeSuits_2 ⟨Nat.zero_le _, Nat.zero_le _⟩ (fun _ H locs hP hD hS => ?_)
  have hP : va_P (dC, dI) vwCl [(a_o, .inr (2, [.int o_persons, .int o_ring, .int o_highestTold, .ref a_o_bestPlace, .ref a_o_stepCost, .ref a_o_kind, .ref a_o_likings])), (a_o_bestPlace, .inl (cI, 8, .inl o_bestPlace)), (a_o_stepCost, .inl (cI, 8, .inl o_stepCost)), (a_o_kind, .inl (cI, 8, .inl o_kind)), (a_o_likings, .inl (cI, 64, .inl o_likings))] H := hP
  have hD : va_D A [(a_o, .inr (2, [.int o_persons, .int o_ring, .int o_highestTold, .ref a_o_bestPlace, .ref a_o_stepCost, .ref a_o_kind, .ref a_o_likings])), (a_o_bestPlace, .inl (cI, 8, .inl o_bestPlace)), (a_o_stepCost, .inl (cI, 8, .inl o_stepCost)), (a_o_kind, .inl (cI, 8, .inl o_kind)), (a_o_likings, .inl (cI, 64, .inl o_likings))] := hD
  refine lv_istore_n (lv' := [(3, .int u_1), (0, .ref a_o), (1, .int x1), (2, .int x2)]) hx hb dX2_changeSuits_5 rfl hl (by decide) rfl (fun ls hl => ?_)
  refine lv_aload_n hx hb dX2_changeSuits_6 rfl (lv_at hl 1 rfl) ?_
  refine lv_iload_n hx hb dX2_changeSuits_7 rfl (lv_at hl 2 rfl) ?_
  refine lv_iload_n hx hb dX2_changeSuits_8 rfl (lv_at hl 3 rfl) ?_
  obtain ⟨u_3, h_4, hf⟩ := obs hf
  refine kcVi (rest := []) (wr := [(a_o_bestPlace, .inl (cI, 8, .inl o_bestPlace)), (a_o_stepCost, .inl (cI, 8, .inl o_stepCost)), (a_o_kind, .inl (cI, 8, .inl o_kind)), (a_o_likings, .inl (cI, 64, .inl o_likings))]) (w2 := fun _ => [(a_o, .inr (2, [.int o_persons, .int o_ring, .int o_highestTold, .ref a_o_bestPlace, .ref a_o_stepCost, .ref a_o_kind, .ref a_o_likings])), (a_o_bestPlace, .inl (cI, 8, .inl o_bestPlace)), (a_o_stepCost, .inl (cI, 8, .inl o_stepCost)), (a_o_kind, .inl (cI, 8, .inl o_kind)), (a_o_likings, .inl (cI, 64, .inl o_likings))]) hx hb hml hown ht (c_X2_changed l dC dI cI cJ cZ a_o a_o_bestPlace a_o_stepCost a_o_kind a_o_likings H.size o_persons o_ring o_highestTold x1 x2 u_3 h_4) (kcw 2 ht wd_2_171 wd_1_3 wd_2_168 kd_X2_changed ⟨rfl, rfl⟩ ⟨Nat.le_of_ble_eq_true rfl, Nat.le_of_ble_eq_true rfl⟩) wd_2_169 wd_2_170 hK hP hD hS hA [0] [1, 2, 3, 4] [4, 0, 1, 2, 3] rfl rfl rfl rfl (by decide) rfl (fun _ => rfl) (ci := 2) rfl rfl rfl rfl hl.1 rfl (Nat.le_of_ble_eq_true rfl) dX2_changeSuits_9 ⟨Nat.zero_le _, Nat.zero_le _⟩ (fun _ H locs hP hD hS => ?_)
  have hP : va_P (dC, dI) vwCl [(a_o, .inr (2, [.int o_persons, .int o_ring, .int o_highestTold, .ref a_o_bestPlace, .ref a_o_stepCost, .ref a_o_kind, .ref a_o_likings])), (a_o_bestPlace, .inl (cI, 8, .inl o_bestPlace)), (a_o_stepCost, .inl (cI, 8, .inl o_stepCost)), (a_o_kind, .inl (cI, 8, .inl o_kind)), (a_o_likings, .inl (cI, 64, .inl o_likings))] H := hP
  have hD : va_D A [(a_o, .inr (2, [.int o_persons, .int o_ring, .int o_highestTold, .ref a_o_bestPlace, .ref a_o_stepCost, .ref a_o_kind, .ref a_o_likings])), (a_o_bestPlace, .inl (cI, 8, .inl o_bestPlace)), (a_o_stepCost, .inl (cI, 8, .inl o_stepCost)), (a_o_kind, .inl (cI, 8, .inl o_kind)), (a_o_likings, .inl (cI, 64, .inl o_likings))] := hD
  refine lv_istore (lv' := [(4, .int u_3), (3, .int u_1), (0, .ref a_o), (1, .int x1), (2, .int x2)]) hx hb dX2_changeSuits_12 hl (by decide) rfl (fun ls hl => ?_)
  refine lv_aload_n hx hb dX2_changeSuits_14 rfl (lv_at hl 2 rfl) ?_
  refine lv_iload_n hx hb dX2_changeSuits_15 rfl (lv_at hl 3 rfl) ?_
  refine lv_iload hx hb dX2_changeSuits_16 (lv_at hl 0 rfl) ?_
  refine lv_iload_n hx hb dX2_changeSuits_18 rfl (lv_at hl 4 rfl) ?_
  refine lv_iload_n hx hb dX2_changeSuits_19 rfl (lv_at hl 1 rfl) ?_
  obtain ⟨u_5, h_6, hf⟩ := obs hf
  refine kcVi (rest := []) (wr := []) (w2 := fun _ => [(a_o, .inr (2, [.int o_persons, .int o_ring, .int o_highestTold, .ref a_o_bestPlace, .ref a_o_stepCost, .ref a_o_kind, .ref a_o_likings])), (a_o_bestPlace, .inl (cI, 8, .inl o_bestPlace)), (a_o_stepCost, .inl (cI, 8, .inl o_stepCost)), (a_o_kind, .inl (cI, 8, .inl o_kind)), (a_o_likings, .inl (cI, 64, .inl o_likings))]) hx hb hml hown ht (c_X2_agrees l dC dI cI cJ cZ a_o a_o_bestPlace a_o_stepCost a_o_kind a_o_likings H.size o_persons o_ring o_highestTold o_bestPlace o_stepCost o_kind o_likings x1 u_3 x2 u_1 u_5 h_6) (kcw 4 ht wd_2_160 wd_1_3 wd_2_157 kd_X2_agrees ⟨rfl, rfl⟩ ⟨Nat.le_of_ble_eq_true rfl, Nat.le_of_ble_eq_true rfl⟩) wd_2_158 wd_2_159 hK hP hD hS hA [0, 1, 2, 3, 4] [] [0, 1, 2, 3, 4] rfl rfl rfl rfl (by decide) rfl (fun _ => rfl) (ci := 2) rfl rfl rfl rfl hl.1 rfl (Nat.le_of_ble_eq_true rfl) dX2_changeSuits_20 ⟨Nat.zero_le _, Nat.zero_le _⟩ (fun _ H locs hP hD hS => ?_)
  have hP : va_P (dC, dI) vwCl [(a_o, .inr (2, [.int o_persons, .int o_ring, .int o_highestTold, .ref a_o_bestPlace, .ref a_o_stepCost, .ref a_o_kind, .ref a_o_likings])), (a_o_bestPlace, .inl (cI, 8, .inl o_bestPlace)), (a_o_stepCost, .inl (cI, 8, .inl o_stepCost)), (a_o_kind, .inl (cI, 8, .inl o_kind)), (a_o_likings, .inl (cI, 64, .inl o_likings))] H := hP
  have hD : va_D A [(a_o, .inr (2, [.int o_persons, .int o_ring, .int o_highestTold, .ref a_o_bestPlace, .ref a_o_stepCost, .ref a_o_kind, .ref a_o_likings])), (a_o_bestPlace, .inl (cI, 8, .inl o_bestPlace)), (a_o_stepCost, .inl (cI, 8, .inl o_stepCost)), (a_o_kind, .inl (cI, 8, .inl o_kind)), (a_o_likings, .inl (cI, 64, .inl o_likings))] := hD
  refine lv_if_eq (tgt := 42) hx hb dX2_changeSuits_23 (by decide) (fun c_7 => ?_) (fun c_7 => ?_)
  · have hf := ifp c_7 hf
    refine lv_iconst (v := (0 : Int32)) hx hb dX2_changeSuits_42 (by decide) ?_
    exact hret H locs ls 43 (0 : Int32) hf (Or.inl rfl) dX2_changeSuits_43 hP hD hS
  · have hf := ifn c_7 hf
    refine lv_aload_n hx hb dX2_changeSuits_26 rfl (lv_at hl 2 rfl) ?_
    refine lv_iload_n hx hb dX2_changeSuits_27 rfl (lv_at hl 3 rfl) ?_
    refine lv_iload hx hb dX2_changeSuits_28 (lv_at hl 0 rfl) ?_
    refine lv_iload_n hx hb dX2_changeSuits_30 rfl (lv_at hl 1 rfl) ?_
    refine lv_iload_n hx hb dX2_changeSuits_31 rfl (lv_at hl 4 rfl) ?_
    obtain ⟨u_8, h_9, hf⟩ := obs hf
    refine kcVi (rest := []) (wr := []) (w2 := fun _ => [(a_o, .inr (2, [.int o_persons, .int o_ring, .int o_highestTold, .ref a_o_bestPlace, .ref a_o_stepCost, .ref a_o_kind, .ref a_o_likings])), (a_o_bestPlace, .inl (cI, 8, .inl o_bestPlace)), (a_o_stepCost, .inl (cI, 8, .inl o_stepCost)), (a_o_kind, .inl (cI, 8, .inl o_kind)), (a_o_likings, .inl (cI, 64, .inl o_likings))]) hx hb hml hown ht (c_X2_agrees l dC dI cI cJ cZ a_o a_o_bestPlace a_o_stepCost a_o_kind a_o_likings H.size o_persons o_ring o_highestTold o_bestPlace o_stepCost o_kind o_likings x1 u_3 u_1 x2 u_8 h_9) (kcw 4 ht wd_2_160 wd_1_3 wd_2_157 kd_X2_agrees ⟨rfl, rfl⟩ ⟨Nat.le_of_ble_eq_true rfl, Nat.le_of_ble_eq_true rfl⟩) wd_2_158 wd_2_159 hK hP hD hS hA [0, 1, 2, 3, 4] [] [0, 1, 2, 3, 4] rfl rfl rfl rfl (by decide) rfl (fun _ => rfl) (ci := 2) rfl rfl rfl rfl hl.1 rfl (Nat.le_of_ble_eq_true rfl) dX2_changeSuits_32 ⟨Nat.zero_le _, Nat.zero_le _⟩ (fun _ H locs hP hD hS => ?_)
    have hP : va_P (dC, dI) vwCl [(a_o, .inr (2, [.int o_persons, .int o_ring, .int o_highestTold, .ref a_o_bestPlace, .ref a_o_stepCost, .ref a_o_kind, .ref a_o_likings])), (a_o_bestPlace, .inl (cI, 8, .inl o_bestPlace)), (a_o_stepCost, .inl (cI, 8, .inl o_stepCost)), (a_o_kind, .inl (cI, 8, .inl o_kind)), (a_o_likings, .inl (cI, 64, .inl o_likings))] H := hP
    have hD : va_D A [(a_o, .inr (2, [.int o_persons, .int o_ring, .int o_highestTold, .ref a_o_bestPlace, .ref a_o_stepCost, .ref a_o_kind, .ref a_o_likings])), (a_o_bestPlace, .inl (cI, 8, .inl o_bestPlace)), (a_o_stepCost, .inl (cI, 8, .inl o_stepCost)), (a_o_kind, .inl (cI, 8, .inl o_kind)), (a_o_likings, .inl (cI, 64, .inl o_likings))] := hD
    refine lv_if_eq (tgt := 42) hx hb dX2_changeSuits_35 (by decide) (fun c_10 => ?_) (fun c_10 => ?_)
    · have hf := ifp c_10 hf
      refine lv_iconst (v := (0 : Int32)) hx hb dX2_changeSuits_42 (by decide) ?_
      exact hret H locs ls 43 (0 : Int32) hf (Or.inl rfl) dX2_changeSuits_43 hP hD hS
    · have hf := ifn c_10 hf
      refine lv_iconst (v := (1 : Int32)) hx hb dX2_changeSuits_38 (by decide) ?_
      refine lv_goto (tgt := 43) hx hb dX2_changeSuits_39 (by decide) ?_
      exact hret H locs ls 43 (1 : Int32) hf (Or.inr rfl) dX2_changeSuits_43 hP hD hS
def f_X2_roundSuits (x1 : Int32) (x2 : Int32) (o_persons : Int32) (o_ring : Int32) (o_bestPlace : Nat → Int32) (o_stepCost : Nat → Int32) (o_kind : Nat → Int32) (o_likings : Nat → Int32) : Option (Int32) := Option.bind (f_X2_after x2 o_persons) (fun u_1 => Option.bind (f_X2_after u_1 o_persons) (fun u_3 => Option.bind (f_X2_turned x1 x2 o_persons) (fun u_5 => Option.bind (f_X2_agrees x1 u_5 x2 u_1 o_persons o_ring o_bestPlace o_stepCost o_kind o_likings) (fun u_7 => if u_7 = 0 then some (0 : Int32) else Option.bind (f_X2_agrees x1 u_5 u_1 u_3 o_persons o_ring o_bestPlace o_stepCost o_kind o_likings) (fun u_10 => if u_10 = 0 then some (0 : Int32) else Option.bind (f_X2_agrees x1 u_5 u_3 x2 o_persons o_ring o_bestPlace o_stepCost o_kind o_likings) (fun u_13 => if u_13 = 0 then some (0 : Int32) else some (1 : Int32)))))))
abbrev rm_X2_roundSuits : Room := { frames := 3, cells := 0, slots := 0, locals := 74 }
theorem kd_X2_roundSuits : yX2_roundSuits.cls ≠ "java/lang/invoke/MethodHandle" ∧ yX2_roundSuits.cls ≠ "java/lang/invoke/VarHandle" ∧ (parseMethodDescriptor yX2_roundSuits.desc).map (fun d => d.parameters.length) = some 2 := by decide +kernel
set_option maxHeartbeats 4000000 in
set_option maxRecDepth 100000 in
theorem c_X2_roundSuits (l : Launch) (dC : Nat → ClassId) (dI : Nat → Nat → Nat) (cI cJ cZ : ClassId) (a_o a_o_bestPlace a_o_stepCost a_o_kind a_o_likings : Nat) (sz : Nat) (o_persons : Int32) (o_ring : Int32) (o_highestTold : Int32) (o_bestPlace : Nat → Int32) (o_stepCost : Nat → Int32) (o_kind : Nat → Int32) (o_likings : Nat → Int32) (x1 : Int32) (x2 : Int32) (res : Int32) (hf : f_X2_roundSuits x1 x2 o_persons o_ring o_bestPlace o_stepCost o_kind o_likings = some res) : kMi Unit l yX2_roundSuits cX2_roundSuits 6 (some .boolean) rm_X2_roundSuits [.ref a_o, .int x1, .int x2] (dC, dI) (kT cI cJ cZ) sz [(a_o, .inr (2, [.int o_persons, .int o_ring, .int o_highestTold, .ref a_o_bestPlace, .ref a_o_stepCost, .ref a_o_kind, .ref a_o_likings])), (a_o_bestPlace, .inl (cI, 8, .inl o_bestPlace)), (a_o_stepCost, .inl (cI, 8, .inl o_stepCost)), (a_o_kind, .inl (cI, 8, .inl o_kind)), (a_o_likings, .inl (cI, 64, .inl o_likings))] res (fun _ => [(a_o, .inr (2, [.int o_persons, .int o_ring, .int o_highestTold, .ref a_o_bestPlace, .ref a_o_stepCost, .ref a_o_kind, .ref a_o_likings])), (a_o_bestPlace, .inl (cI, 8, .inl o_bestPlace)), (a_o_stepCost, .inl (cI, 8, .inl o_stepCost)), (a_o_kind, .inl (cI, 8, .inl o_kind)), (a_o_likings, .inl (cI, 64, .inl o_likings))]) := by
  refine Met.ofW (cc := cX2_roundSuits) (maxL := 6) (ret := (some .boolean)) (by decide) rfl ?_
  intro p e s m args below meth c s₁ B hml hv
  obtain ⟨rfl, hsz, hP, hK, hD0⟩ := hv
  have hx := B.exec
  have hb := B.bytes
  have hr := B.returns
  have ht : ∀ w ∈ lw_g, w.before ([.ref a_o, .int x1, .int x2] : List Value).toArray s = true := fun w h => atoms_spec (ws := kws yX2_roundSuits cX2_roundSuits 6 (some .boolean)) B.pre w (List.mem_cons_of_mem _ h)
  have hown : s.vm.findClass RX2 = some m.cls := findClass_of_methodNamed B.named
  have hlocks := B.notSynchronized
  subst hsz
  have hD := hD0.self (sz := s.heap.size)
  generalize hAe : va_A [(a_o, .inr (2, [.int o_persons, .int o_ring, .int o_highestTold, .ref a_o_bestPlace, .ref a_o_stepCost, .ref a_o_kind, .ref a_o_likings])), (a_o_bestPlace, .inl (cI, 8, .inl o_bestPlace)), (a_o_stepCost, .inl (cI, 8, .inl o_stepCost)), (a_o_kind, .inl (cI, 8, .inl o_kind)), (a_o_likings, .inl (cI, 64, .inl o_likings))] s.heap.size = A at hD ⊢
  have hA : ∀ q : Nat, s.heap.size ≤ q → A q := fun q h => by rw [← hAe]; exact Or.inr h
  have hS : va_S A s.heap s.heap [] := va_S.rf
  have hret : ∀ (H : Heap) (locs : List Loc) (ls : Array Slot) (pc : Nat) (v : Int32), some v = some res → (v = 0 ∨ v = 1) → decode cX2_roundSuits pc = .ok (.ireturn, 1) → va_P (dC, dI) vwCl [(a_o, .inr (2, [.int o_persons, .int o_ring, .int o_highestTold, .ref a_o_bestPlace, .ref a_o_stepCost, .ref a_o_kind, .ref a_o_likings])), (a_o_bestPlace, .inl (cI, 8, .inl o_bestPlace)), (a_o_stepCost, .inl (cI, 8, .inl o_stepCost)), (a_o_kind, .inl (cI, 8, .inl o_kind)), (a_o_likings, .inl (cI, 64, .inl o_likings))] H → va_D A [(a_o, .inr (2, [.int o_persons, .int o_ring, .int o_highestTold, .ref a_o_bestPlace, .ref a_o_stepCost, .ref a_o_kind, .ref a_o_likings])), (a_o_bestPlace, .inl (cI, 8, .inl o_bestPlace)), (a_o_stepCost, .inl (cI, 8, .inl o_stepCost)), (a_o_kind, .inl (cI, 8, .inl o_kind)), (a_o_likings, .inl (cI, 64, .inl o_likings))] → va_S A s.heap H locs → W p l e (headSpec (kws yX2_roundSuits cX2_roundSuits 6 (some .boolean)) rm_X2_roundSuits).room s m ([.ref a_o, .int x1, .int x2] : List Value).toArray below meth c H locs 0 0 (MQ below (kQi Unit (dC, dI) A res (fun _ => [(a_o, .inr (2, [.int o_persons, .int o_ring, .int o_highestTold, .ref a_o_bestPlace, .ref a_o_stepCost, .ref a_o_kind, .ref a_o_likings])), (a_o_bestPlace, .inl (cI, 8, .inl o_bestPlace)), (a_o_stepCost, .inl (cI, 8, .inl o_stepCost)), (a_o_kind, .inl (cI, 8, .inl o_kind)), (a_o_likings, .inl (cI, 64, .inl o_likings))])) ([.ref a_o, .int x1, .int x2] : List Value).toArray s 0 0 A) (F0 m pc ls [.int v]) := by
    intro H locs ls pc v he hz hd hP hD hS
    obtain rfl := Option.some.inj he
    exact krz hx hb hr hlocks () hz hP hD hS hd
  have hl := lv_entry ([.ref a_o, .int x1, .int x2]) (n := 6) (Nat.le_of_ble_eq_true rfl)
  rw [lg_entry_eq]
  generalize (lg_sl ([.ref a_o, .int x1, .int x2]) ++ List.replicate (6 - (lg_sl ([.ref a_o, .int x1, .int x2])).length) Slot.unset).toArray = ls at hl ⊢
  have hl : lv_has ls 6 [(0, .ref a_o), (1, .int x1), (2, .int x2)] := hl
  generalize (MQ below _ ([.ref a_o, .int x1, .int x2] : List Value).toArray s 0 0 A) = Q at hret ⊢
  generalize ([.ref a_o, .int x1, .int x2] : List Value).toArray = args at ht hret ⊢
  have hP : va_P (dC, dI) vwCl [(a_o, .inr (2, [.int o_persons, .int o_ring, .int o_highestTold, .ref a_o_bestPlace, .ref a_o_stepCost, .ref a_o_kind, .ref a_o_likings])), (a_o_bestPlace, .inl (cI, 8, .inl o_bestPlace)), (a_o_stepCost, .inl (cI, 8, .inl o_stepCost)), (a_o_kind, .inl (cI, 8, .inl o_kind)), (a_o_likings, .inl (cI, 64, .inl o_likings))] s.heap := hP
  unfold f_X2_roundSuits at hf
  obtain ⟨H, hH⟩ : ∃ H, H = s.heap := ⟨_, rfl⟩
  obtain ⟨locs, hlo⟩ : ∃ L : List Loc, L = [] := ⟨_, rfl⟩
  rw [← hH] at hP
  have hS : va_S A s.heap H locs := by rw [hH, hlo]; exact hS
  rw [show W p l e (headSpec (kws yX2_roundSuits cX2_roundSuits 6 (some .boolean)) rm_X2_roundSuits).room s m args below meth c s.heap [] 0 0 Q (F0 m 0 ls []) = W p l e (headSpec (kws yX2_roundSuits cX2_roundSuits 6 (some .boolean)) rm_X2_roundSuits).room s m args below meth c H locs 0 0 Q (F0 m 0 ls []) from by rw [hH, hlo]]
  refine lv_aload_n hx hb dX2_roundSuits_0 rfl (lv_at hl 0 rfl) ?_
  refine lv_iload_n hx hb dX2_roundSuits_1 rfl (lv_at hl 2 rfl) ?_
  obtain ⟨u_1, h_2, hf⟩ := obs hf
  refine kcVi (rest := []) (wr := [(a_o_bestPlace, .inl (cI, 8, .inl o_bestPlace)), (a_o_stepCost, .inl (cI, 8, .inl o_stepCost)), (a_o_kind, .inl (cI, 8, .inl o_kind)), (a_o_likings, .inl (cI, 64, .inl o_likings))]) (w2 := fun _ => [(a_o, .inr (2, [.int o_persons, .int o_ring, .int o_highestTold, .ref a_o_bestPlace, .ref a_o_stepCost, .ref a_o_kind, .ref a_o_likings])), (a_o_bestPlace, .inl (cI, 8, .inl o_bestPlace)), (a_o_stepCost, .inl (cI, 8, .inl o_stepCost)), (a_o_kind, .inl (cI, 8, .inl o_kind)), (a_o_likings, .inl (cI, 64, .inl o_likings))]) hx hb hml hown ht (c_X2_after l dC dI cI cJ cZ a_o a_o_bestPlace a_o_stepCost a_o_kind a_o_likings H.size o_persons o_ring o_highestTold x2 u_1 h_2) (kcw 1 ht wd_2_119 wd_1_3 wd_2_116 kd_X2_after ⟨rfl, rfl⟩ ⟨Nat.le_of_ble_eq_true rfl, Nat.le_of_ble_eq_true rfl⟩) wd_2_117 wd_2_118 hK hP hD hS hA [0] [1, 2, 3, 4] [4, 0, 1, 2, 3] rfl rfl rfl rfl (by decide) rfl (fun _ => rfl) (ci := 2) rfl rfl rfl rfl hl.1 rfl (Nat.le_of_ble_eq_true rfl) dX2_roundSuits_2 ⟨Nat.zero_le _, Nat.zero_le _⟩ (fun _ H locs hP hD hS => ?_)
  have hP : va_P (dC, dI) vwCl [(a_o, .inr (2, [.int o_persons, .int o_ring, .int o_highestTold, .ref a_o_bestPlace, .ref a_o_stepCost, .ref a_o_kind, .ref a_o_likings])), (a_o_bestPlace, .inl (cI, 8, .inl o_bestPlace)), (a_o_stepCost, .inl (cI, 8, .inl o_stepCost)), (a_o_kind, .inl (cI, 8, .inl o_kind)), (a_o_likings, .inl (cI, 64, .inl o_likings))] H := hP
  have hD : va_D A [(a_o, .inr (2, [.int o_persons, .int o_ring, .int o_highestTold, .ref a_o_bestPlace, .ref a_o_stepCost, .ref a_o_kind, .ref a_o_likings])), (a_o_bestPlace, .inl (cI, 8, .inl o_bestPlace)), (a_o_stepCost, .inl (cI, 8, .inl o_stepCost)), (a_o_kind, .inl (cI, 8, .inl o_kind)), (a_o_likings, .inl (cI, 64, .inl o_likings))] := hD
  refine lv_istore_n (lv' := [(3, .int u_1), (0, .ref a_o), (1, .int x1), (2, .int x2)]) hx hb dX2_roundSuits_5 rfl hl (by decide) rfl (fun ls hl => ?_)
  refine lv_aload_n hx hb dX2_roundSuits_6 rfl (lv_at hl 1 rfl) ?_
  refine lv_iload_n hx hb dX2_roundSuits_7 rfl (lv_at hl 0 rfl) ?_
  obtain ⟨u_3, h_4, hf⟩ := obs hf
  refine kcVi (rest := []) (wr := [(a_o_bestPlace, .inl (cI, 8, .inl o_bestPlace)), (a_o_stepCost, .inl (cI, 8, .inl o_stepCost)), (a_o_kind, .inl (cI, 8, .inl o_kind)), (a_o_likings, .inl (cI, 64, .inl o_likings))]) (w2 := fun _ => [(a_o, .inr (2, [.int o_persons, .int o_ring, .int o_highestTold, .ref a_o_bestPlace, .ref a_o_stepCost, .ref a_o_kind, .ref a_o_likings])), (a_o_bestPlace, .inl (cI, 8, .inl o_bestPlace)), (a_o_stepCost, .inl (cI, 8, .inl o_stepCost)), (a_o_kind, .inl (cI, 8, .inl o_kind)), (a_o_likings, .inl (cI, 64, .inl o_likings))]) hx hb hml hown ht (c_X2_after l dC dI cI cJ cZ a_o a_o_bestPlace a_o_stepCost a_o_kind a_o_likings H.size o_persons o_ring o_highestTold u_1 u_3 h_4) (kcw 1 ht wd_2_119 wd_1_3 wd_2_116 kd_X2_after ⟨rfl, rfl⟩ ⟨Nat.le_of_ble_eq_true rfl, Nat.le_of_ble_eq_true rfl⟩) wd_2_117 wd_2_118 hK hP hD hS hA [0] [1, 2, 3, 4] [4, 0, 1, 2, 3] rfl rfl rfl rfl (by decide) rfl (fun _ => rfl) (ci := 2) rfl rfl rfl rfl hl.1 rfl (Nat.le_of_ble_eq_true rfl) dX2_roundSuits_8 ⟨Nat.zero_le _, Nat.zero_le _⟩ (fun _ H locs hP hD hS => ?_)
  have hP : va_P (dC, dI) vwCl [(a_o, .inr (2, [.int o_persons, .int o_ring, .int o_highestTold, .ref a_o_bestPlace, .ref a_o_stepCost, .ref a_o_kind, .ref a_o_likings])), (a_o_bestPlace, .inl (cI, 8, .inl o_bestPlace)), (a_o_stepCost, .inl (cI, 8, .inl o_stepCost)), (a_o_kind, .inl (cI, 8, .inl o_kind)), (a_o_likings, .inl (cI, 64, .inl o_likings))] H := hP
  have hD : va_D A [(a_o, .inr (2, [.int o_persons, .int o_ring, .int o_highestTold, .ref a_o_bestPlace, .ref a_o_stepCost, .ref a_o_kind, .ref a_o_likings])), (a_o_bestPlace, .inl (cI, 8, .inl o_bestPlace)), (a_o_stepCost, .inl (cI, 8, .inl o_stepCost)), (a_o_kind, .inl (cI, 8, .inl o_kind)), (a_o_likings, .inl (cI, 64, .inl o_likings))] := hD
  refine lv_istore (lv' := [(4, .int u_3), (3, .int u_1), (0, .ref a_o), (1, .int x1), (2, .int x2)]) hx hb dX2_roundSuits_11 hl (by decide) rfl (fun ls hl => ?_)
  refine lv_aload_n hx hb dX2_roundSuits_13 rfl (lv_at hl 2 rfl) ?_
  refine lv_iload_n hx hb dX2_roundSuits_14 rfl (lv_at hl 3 rfl) ?_
  refine lv_iload_n hx hb dX2_roundSuits_15 rfl (lv_at hl 4 rfl) ?_
  obtain ⟨u_5, h_6, hf⟩ := obs hf
  refine kcVi (rest := []) (wr := [(a_o_bestPlace, .inl (cI, 8, .inl o_bestPlace)), (a_o_stepCost, .inl (cI, 8, .inl o_stepCost)), (a_o_kind, .inl (cI, 8, .inl o_kind)), (a_o_likings, .inl (cI, 64, .inl o_likings))]) (w2 := fun _ => [(a_o, .inr (2, [.int o_persons, .int o_ring, .int o_highestTold, .ref a_o_bestPlace, .ref a_o_stepCost, .ref a_o_kind, .ref a_o_likings])), (a_o_bestPlace, .inl (cI, 8, .inl o_bestPlace)), (a_o_stepCost, .inl (cI, 8, .inl o_stepCost)), (a_o_kind, .inl (cI, 8, .inl o_kind)), (a_o_likings, .inl (cI, 64, .inl o_likings))]) hx hb hml hown ht (c_X2_turned l dC dI cI cJ cZ a_o a_o_bestPlace a_o_stepCost a_o_kind a_o_likings H.size o_persons o_ring o_highestTold x1 x2 u_5 h_6) (kcw 2 ht wd_2_153 wd_1_3 wd_2_150 kd_X2_turned ⟨rfl, rfl⟩ ⟨Nat.le_of_ble_eq_true rfl, Nat.le_of_ble_eq_true rfl⟩) wd_2_151 wd_2_152 hK hP hD hS hA [0] [1, 2, 3, 4] [4, 0, 1, 2, 3] rfl rfl rfl rfl (by decide) rfl (fun _ => rfl) (ci := 2) rfl rfl rfl rfl hl.1 rfl (Nat.le_of_ble_eq_true rfl) dX2_roundSuits_16 ⟨Nat.zero_le _, Nat.zero_le _⟩ (fun _ H locs hP hD hS => ?_)
  have hP : va_P (dC, dI) vwCl [(a_o, .inr (2, [.int o_persons, .int o_ring, .int o_highestTold, .ref a_o_bestPlace, .ref a_o_stepCost, .ref a_o_kind, .ref a_o_likings])), (a_o_bestPlace, .inl (cI, 8, .inl o_bestPlace)), (a_o_stepCost, .inl (cI, 8, .inl o_stepCost)), (a_o_kind, .inl (cI, 8, .inl o_kind)), (a_o_likings, .inl (cI, 64, .inl o_likings))] H := hP
  have hD : va_D A [(a_o, .inr (2, [.int o_persons, .int o_ring, .int o_highestTold, .ref a_o_bestPlace, .ref a_o_stepCost, .ref a_o_kind, .ref a_o_likings])), (a_o_bestPlace, .inl (cI, 8, .inl o_bestPlace)), (a_o_stepCost, .inl (cI, 8, .inl o_stepCost)), (a_o_kind, .inl (cI, 8, .inl o_kind)), (a_o_likings, .inl (cI, 64, .inl o_likings))] := hD
  refine lv_istore (lv' := [(5, .int u_5), (4, .int u_3), (3, .int u_1), (0, .ref a_o), (1, .int x1), (2, .int x2)]) hx hb dX2_roundSuits_19 hl (by decide) rfl (fun ls hl => ?_)
  refine lv_aload_n hx hb dX2_roundSuits_21 rfl (lv_at hl 3 rfl) ?_
  refine lv_iload_n hx hb dX2_roundSuits_22 rfl (lv_at hl 4 rfl) ?_
  refine lv_iload hx hb dX2_roundSuits_23 (lv_at hl 0 rfl) ?_
  refine lv_iload_n hx hb dX2_roundSuits_25 rfl (lv_at hl 5 rfl) ?_
  refine lv_iload_n hx hb dX2_roundSuits_26 rfl (lv_at hl 2 rfl) ?_
  obtain ⟨u_7, h_8, hf⟩ := obs hf
  refine kcVi (rest := []) (wr := []) (w2 := fun _ => [(a_o, .inr (2, [.int o_persons, .int o_ring, .int o_highestTold, .ref a_o_bestPlace, .ref a_o_stepCost, .ref a_o_kind, .ref a_o_likings])), (a_o_bestPlace, .inl (cI, 8, .inl o_bestPlace)), (a_o_stepCost, .inl (cI, 8, .inl o_stepCost)), (a_o_kind, .inl (cI, 8, .inl o_kind)), (a_o_likings, .inl (cI, 64, .inl o_likings))]) hx hb hml hown ht (c_X2_agrees l dC dI cI cJ cZ a_o a_o_bestPlace a_o_stepCost a_o_kind a_o_likings H.size o_persons o_ring o_highestTold o_bestPlace o_stepCost o_kind o_likings x1 u_5 x2 u_1 u_7 h_8) (kcw 4 ht wd_2_160 wd_1_3 wd_2_157 kd_X2_agrees ⟨rfl, rfl⟩ ⟨Nat.le_of_ble_eq_true rfl, Nat.le_of_ble_eq_true rfl⟩) wd_2_158 wd_2_159 hK hP hD hS hA [0, 1, 2, 3, 4] [] [0, 1, 2, 3, 4] rfl rfl rfl rfl (by decide) rfl (fun _ => rfl) (ci := 2) rfl rfl rfl rfl hl.1 rfl (Nat.le_of_ble_eq_true rfl) dX2_roundSuits_27 ⟨Nat.zero_le _, Nat.zero_le _⟩ (fun _ H locs hP hD hS => ?_)
  have hP : va_P (dC, dI) vwCl [(a_o, .inr (2, [.int o_persons, .int o_ring, .int o_highestTold, .ref a_o_bestPlace, .ref a_o_stepCost, .ref a_o_kind, .ref a_o_likings])), (a_o_bestPlace, .inl (cI, 8, .inl o_bestPlace)), (a_o_stepCost, .inl (cI, 8, .inl o_stepCost)), (a_o_kind, .inl (cI, 8, .inl o_kind)), (a_o_likings, .inl (cI, 64, .inl o_likings))] H := hP
  have hD : va_D A [(a_o, .inr (2, [.int o_persons, .int o_ring, .int o_highestTold, .ref a_o_bestPlace, .ref a_o_stepCost, .ref a_o_kind, .ref a_o_likings])), (a_o_bestPlace, .inl (cI, 8, .inl o_bestPlace)), (a_o_stepCost, .inl (cI, 8, .inl o_stepCost)), (a_o_kind, .inl (cI, 8, .inl o_kind)), (a_o_likings, .inl (cI, 64, .inl o_likings))] := hD
  refine lv_if_eq (tgt := 63) hx hb dX2_roundSuits_30 (by decide) (fun c_9 => ?_) (fun c_9 => ?_)
  · have hf := ifp c_9 hf
    refine lv_iconst (v := (0 : Int32)) hx hb dX2_roundSuits_63 (by decide) ?_
    exact hret H locs ls 64 (0 : Int32) hf (Or.inl rfl) dX2_roundSuits_64 hP hD hS
  · have hf := ifn c_9 hf
    refine lv_aload_n hx hb dX2_roundSuits_33 rfl (lv_at hl 3 rfl) ?_
    refine lv_iload_n hx hb dX2_roundSuits_34 rfl (lv_at hl 4 rfl) ?_
    refine lv_iload hx hb dX2_roundSuits_35 (lv_at hl 0 rfl) ?_
    refine lv_iload_n hx hb dX2_roundSuits_37 rfl (lv_at hl 2 rfl) ?_
    refine lv_iload hx hb dX2_roundSuits_38 (lv_at hl 1 rfl) ?_
    obtain ⟨u_10, h_11, hf⟩ := obs hf
    refine kcVi (rest := []) (wr := []) (w2 := fun _ => [(a_o, .inr (2, [.int o_persons, .int o_ring, .int o_highestTold, .ref a_o_bestPlace, .ref a_o_stepCost, .ref a_o_kind, .ref a_o_likings])), (a_o_bestPlace, .inl (cI, 8, .inl o_bestPlace)), (a_o_stepCost, .inl (cI, 8, .inl o_stepCost)), (a_o_kind, .inl (cI, 8, .inl o_kind)), (a_o_likings, .inl (cI, 64, .inl o_likings))]) hx hb hml hown ht (c_X2_agrees l dC dI cI cJ cZ a_o a_o_bestPlace a_o_stepCost a_o_kind a_o_likings H.size o_persons o_ring o_highestTold o_bestPlace o_stepCost o_kind o_likings x1 u_5 u_1 u_3 u_10 h_11) (kcw 4 ht wd_2_160 wd_1_3 wd_2_157 kd_X2_agrees ⟨rfl, rfl⟩ ⟨Nat.le_of_ble_eq_true rfl, Nat.le_of_ble_eq_true rfl⟩) wd_2_158 wd_2_159 hK hP hD hS hA [0, 1, 2, 3, 4] [] [0, 1, 2, 3, 4] rfl rfl rfl rfl (by decide) rfl (fun _ => rfl) (ci := 2) rfl rfl rfl rfl hl.1 rfl (Nat.le_of_ble_eq_true rfl) dX2_roundSuits_40 ⟨Nat.zero_le _, Nat.zero_le _⟩ (fun _ H locs hP hD hS => ?_)
    have hP : va_P (dC, dI) vwCl [(a_o, .inr (2, [.int o_persons, .int o_ring, .int o_highestTold, .ref a_o_bestPlace, .ref a_o_stepCost, .ref a_o_kind, .ref a_o_likings])), (a_o_bestPlace, .inl (cI, 8, .inl o_bestPlace)), (a_o_stepCost, .inl (cI, 8, .inl o_stepCost)), (a_o_kind, .inl (cI, 8, .inl o_kind)), (a_o_likings, .inl (cI, 64, .inl o_likings))] H := hP
    have hD : va_D A [(a_o, .inr (2, [.int o_persons, .int o_ring, .int o_highestTold, .ref a_o_bestPlace, .ref a_o_stepCost, .ref a_o_kind, .ref a_o_likings])), (a_o_bestPlace, .inl (cI, 8, .inl o_bestPlace)), (a_o_stepCost, .inl (cI, 8, .inl o_stepCost)), (a_o_kind, .inl (cI, 8, .inl o_kind)), (a_o_likings, .inl (cI, 64, .inl o_likings))] := hD
    refine lv_if_eq (tgt := 63) hx hb dX2_roundSuits_43 (by decide) (fun c_12 => ?_) (fun c_12 => ?_)
    · have hf := ifp c_12 hf
      refine lv_iconst (v := (0 : Int32)) hx hb dX2_roundSuits_63 (by decide) ?_
      exact hret H locs ls 64 (0 : Int32) hf (Or.inl rfl) dX2_roundSuits_64 hP hD hS
    · have hf := ifn c_12 hf
      refine lv_aload_n hx hb dX2_roundSuits_46 rfl (lv_at hl 3 rfl) ?_
      refine lv_iload_n hx hb dX2_roundSuits_47 rfl (lv_at hl 4 rfl) ?_
      refine lv_iload hx hb dX2_roundSuits_48 (lv_at hl 0 rfl) ?_
      refine lv_iload hx hb dX2_roundSuits_50 (lv_at hl 1 rfl) ?_
      refine lv_iload_n hx hb dX2_roundSuits_52 rfl (lv_at hl 5 rfl) ?_
      obtain ⟨u_13, h_14, hf⟩ := obs hf
      refine kcVi (rest := []) (wr := []) (w2 := fun _ => [(a_o, .inr (2, [.int o_persons, .int o_ring, .int o_highestTold, .ref a_o_bestPlace, .ref a_o_stepCost, .ref a_o_kind, .ref a_o_likings])), (a_o_bestPlace, .inl (cI, 8, .inl o_bestPlace)), (a_o_stepCost, .inl (cI, 8, .inl o_stepCost)), (a_o_kind, .inl (cI, 8, .inl o_kind)), (a_o_likings, .inl (cI, 64, .inl o_likings))]) hx hb hml hown ht (c_X2_agrees l dC dI cI cJ cZ a_o a_o_bestPlace a_o_stepCost a_o_kind a_o_likings H.size o_persons o_ring o_highestTold o_bestPlace o_stepCost o_kind o_likings x1 u_5 u_3 x2 u_13 h_14) (kcw 4 ht wd_2_160 wd_1_3 wd_2_157 kd_X2_agrees ⟨rfl, rfl⟩ ⟨Nat.le_of_ble_eq_true rfl, Nat.le_of_ble_eq_true rfl⟩) wd_2_158 wd_2_159 hK hP hD hS hA [0, 1, 2, 3, 4] [] [0, 1, 2, 3, 4] rfl rfl rfl rfl (by decide) rfl (fun _ => rfl) (ci := 2) rfl rfl rfl rfl hl.1 rfl (Nat.le_of_ble_eq_true rfl) dX2_roundSuits_53 ⟨Nat.zero_le _, Nat.zero_le _⟩ (fun _ H locs hP hD hS => ?_)
      have hP : va_P (dC, dI) vwCl [(a_o, .inr (2, [.int o_persons, .int o_ring, .int o_highestTold, .ref a_o_bestPlace, .ref a_o_stepCost, .ref a_o_kind, .ref a_o_likings])), (a_o_bestPlace, .inl (cI, 8, .inl o_bestPlace)), (a_o_stepCost, .inl (cI, 8, .inl o_stepCost)), (a_o_kind, .inl (cI, 8, .inl o_kind)), (a_o_likings, .inl (cI, 64, .inl o_likings))] H := hP
      have hD : va_D A [(a_o, .inr (2, [.int o_persons, .int o_ring, .int o_highestTold, .ref a_o_bestPlace, .ref a_o_stepCost, .ref a_o_kind, .ref a_o_likings])), (a_o_bestPlace, .inl (cI, 8, .inl o_bestPlace)), (a_o_stepCost, .inl (cI, 8, .inl o_stepCost)), (a_o_kind, .inl (cI, 8, .inl o_kind)), (a_o_likings, .inl (cI, 64, .inl o_likings))] := hD
      refine lv_if_eq (tgt := 63) hx hb dX2_roundSuits_56 (by decide) (fun c_15 => ?_) (fun c_15 => ?_)
      · have hf := ifp c_15 hf
        refine lv_iconst (v := (0 : Int32)) hx hb dX2_roundSuits_63 (by decide) ?_
        exact hret H locs ls 64 (0 : Int32) hf (Or.inl rfl) dX2_roundSuits_64 hP hD hS
      · have hf := ifn c_15 hf
        refine lv_iconst (v := (1 : Int32)) hx hb dX2_roundSuits_59 (by decide) ?_
        refine lv_goto (tgt := 64) hx hb dX2_roundSuits_60 (by decide) ?_
        exact hret H locs ls 64 (1 : Int32) hf (Or.inr rfl) dX2_roundSuits_64 hP hD hS
def f_X2_suitingCount_b24 (o_persons : Int32) (o_ring : Int32) (o_bestPlace : Nat → Int32) (o_stepCost : Nat → Int32) (o_kind : Nat → Int32) (o_likings : Nat → Int32) (K4 : Int32 → Int32 → Int32 → Option (Int32)) (x1 : Int32) (x2 : Int32) (x3 : Int32) : Option (Int32) := K4 x1 x2 (x3 + (1 : Int32))
def f_X2_suitingCount_l4 (o_persons : Int32) (o_ring : Int32) (o_bestPlace : Nat → Int32) (o_stepCost : Nat → Int32) (o_kind : Nat → Int32) (o_likings : Nat → Int32) : Nat → Int32 → Int32 → Int32 → Option (Int32)
  | 0, _, _, _ => none
  | n + 1, x1, x2, x3 => Option.bind (f_X2_changeCount o_persons o_ring) (fun u_1 => if u_1 ≤ x3 then some x2 else Option.bind (f_X2_changeSuits x1 x3 o_persons o_ring o_bestPlace o_stepCost o_kind o_likings) (fun u_4 => if u_4 = 0 then f_X2_suitingCount_b24 o_persons o_ring o_bestPlace o_stepCost o_kind o_likings (f_X2_suitingCount_l4 o_persons o_ring o_bestPlace o_stepCost o_kind o_likings n) x1 x2 x3 else f_X2_suitingCount_b24 o_persons o_ring o_bestPlace o_stepCost o_kind o_likings (f_X2_suitingCount_l4 o_persons o_ring o_bestPlace o_stepCost o_kind o_likings n) x1 (x2 + (1 : Int32)) x3))
def f_X2_suitingCount (x1 : Int32) (o_persons : Int32) (o_ring : Int32) (o_bestPlace : Nat → Int32) (o_stepCost : Nat → Int32) (o_kind : Nat → Int32) (o_likings : Nat → Int32) : Option (Int32) := f_X2_suitingCount_l4 o_persons o_ring o_bestPlace o_stepCost o_kind o_likings NF x1 (0 : Int32) (0 : Int32)
abbrev rm_X2_suitingCount : Room := { frames := 4, cells := 0, slots := 0, locals := 98 }
theorem kd_X2_suitingCount : yX2_suitingCount.cls ≠ "java/lang/invoke/MethodHandle" ∧ yX2_suitingCount.cls ≠ "java/lang/invoke/VarHandle" ∧ (parseMethodDescriptor yX2_suitingCount.desc).map (fun d => d.parameters.length) = some 1 := by decide +kernel
set_option maxHeartbeats 4000000 in
set_option maxRecDepth 100000 in
theorem c_X2_suitingCount (l : Launch) (dC : Nat → ClassId) (dI : Nat → Nat → Nat) (cI cJ cZ : ClassId) (a_o a_o_bestPlace a_o_stepCost a_o_kind a_o_likings : Nat) (sz : Nat) (o_persons : Int32) (o_ring : Int32) (o_highestTold : Int32) (o_bestPlace : Nat → Int32) (o_stepCost : Nat → Int32) (o_kind : Nat → Int32) (o_likings : Nat → Int32) (x1 : Int32) (res : Int32) (hf : f_X2_suitingCount x1 o_persons o_ring o_bestPlace o_stepCost o_kind o_likings = some res) : kMi Unit l yX2_suitingCount cX2_suitingCount 4 (some .int) rm_X2_suitingCount [.ref a_o, .int x1] (dC, dI) (kT cI cJ cZ) sz [(a_o, .inr (2, [.int o_persons, .int o_ring, .int o_highestTold, .ref a_o_bestPlace, .ref a_o_stepCost, .ref a_o_kind, .ref a_o_likings])), (a_o_bestPlace, .inl (cI, 8, .inl o_bestPlace)), (a_o_stepCost, .inl (cI, 8, .inl o_stepCost)), (a_o_kind, .inl (cI, 8, .inl o_kind)), (a_o_likings, .inl (cI, 64, .inl o_likings))] res (fun _ => [(a_o, .inr (2, [.int o_persons, .int o_ring, .int o_highestTold, .ref a_o_bestPlace, .ref a_o_stepCost, .ref a_o_kind, .ref a_o_likings])), (a_o_bestPlace, .inl (cI, 8, .inl o_bestPlace)), (a_o_stepCost, .inl (cI, 8, .inl o_stepCost)), (a_o_kind, .inl (cI, 8, .inl o_kind)), (a_o_likings, .inl (cI, 64, .inl o_likings))]) := by
  refine Met.ofW (cc := cX2_suitingCount) (maxL := 4) (ret := (some .int)) (by decide) rfl ?_
  intro p e s m args below meth c s₁ B hml hv
  obtain ⟨rfl, hsz, hP, hK, hD0⟩ := hv
  have hx := B.exec
  have hb := B.bytes
  have hr := B.returns
  have ht : ∀ w ∈ lw_g, w.before ([.ref a_o, .int x1] : List Value).toArray s = true := fun w h => atoms_spec (ws := kws yX2_suitingCount cX2_suitingCount 4 (some .int)) B.pre w (List.mem_cons_of_mem _ h)
  have hown : s.vm.findClass RX2 = some m.cls := findClass_of_methodNamed B.named
  have hlocks := B.notSynchronized
  subst hsz
  have hD := hD0.self (sz := s.heap.size)
  generalize hAe : va_A [(a_o, .inr (2, [.int o_persons, .int o_ring, .int o_highestTold, .ref a_o_bestPlace, .ref a_o_stepCost, .ref a_o_kind, .ref a_o_likings])), (a_o_bestPlace, .inl (cI, 8, .inl o_bestPlace)), (a_o_stepCost, .inl (cI, 8, .inl o_stepCost)), (a_o_kind, .inl (cI, 8, .inl o_kind)), (a_o_likings, .inl (cI, 64, .inl o_likings))] s.heap.size = A at hD ⊢
  have hA : ∀ q : Nat, s.heap.size ≤ q → A q := fun q h => by rw [← hAe]; exact Or.inr h
  have hS : va_S A s.heap s.heap [] := va_S.rf
  have hret : ∀ (H : Heap) (locs : List Loc) (ls : Array Slot) (pc : Nat) (v : Int32), some v = some res → decode cX2_suitingCount pc = .ok (.ireturn, 1) → va_P (dC, dI) vwCl [(a_o, .inr (2, [.int o_persons, .int o_ring, .int o_highestTold, .ref a_o_bestPlace, .ref a_o_stepCost, .ref a_o_kind, .ref a_o_likings])), (a_o_bestPlace, .inl (cI, 8, .inl o_bestPlace)), (a_o_stepCost, .inl (cI, 8, .inl o_stepCost)), (a_o_kind, .inl (cI, 8, .inl o_kind)), (a_o_likings, .inl (cI, 64, .inl o_likings))] H → va_D A [(a_o, .inr (2, [.int o_persons, .int o_ring, .int o_highestTold, .ref a_o_bestPlace, .ref a_o_stepCost, .ref a_o_kind, .ref a_o_likings])), (a_o_bestPlace, .inl (cI, 8, .inl o_bestPlace)), (a_o_stepCost, .inl (cI, 8, .inl o_stepCost)), (a_o_kind, .inl (cI, 8, .inl o_kind)), (a_o_likings, .inl (cI, 64, .inl o_likings))] → va_S A s.heap H locs → W p l e (headSpec (kws yX2_suitingCount cX2_suitingCount 4 (some .int)) rm_X2_suitingCount).room s m ([.ref a_o, .int x1] : List Value).toArray below meth c H locs 0 0 (MQ below (kQi Unit (dC, dI) A res (fun _ => [(a_o, .inr (2, [.int o_persons, .int o_ring, .int o_highestTold, .ref a_o_bestPlace, .ref a_o_stepCost, .ref a_o_kind, .ref a_o_likings])), (a_o_bestPlace, .inl (cI, 8, .inl o_bestPlace)), (a_o_stepCost, .inl (cI, 8, .inl o_stepCost)), (a_o_kind, .inl (cI, 8, .inl o_kind)), (a_o_likings, .inl (cI, 64, .inl o_likings))])) ([.ref a_o, .int x1] : List Value).toArray s 0 0 A) (F0 m pc ls [.int v]) := by
    intro H locs ls pc v he hd hP hD hS
    obtain rfl := Option.some.inj he
    exact kri hx hb hr hlocks () hP hD hS hd
  have hl := lv_entry ([.ref a_o, .int x1]) (n := 4) (Nat.le_of_ble_eq_true rfl)
  rw [lg_entry_eq]
  generalize (lg_sl ([.ref a_o, .int x1]) ++ List.replicate (4 - (lg_sl ([.ref a_o, .int x1])).length) Slot.unset).toArray = ls at hl ⊢
  have hl : lv_has ls 4 [(0, .ref a_o), (1, .int x1)] := hl
  generalize (MQ below _ ([.ref a_o, .int x1] : List Value).toArray s 0 0 A) = Q at hret ⊢
  generalize ([.ref a_o, .int x1] : List Value).toArray = args at ht hret ⊢
  have hP : va_P (dC, dI) vwCl [(a_o, .inr (2, [.int o_persons, .int o_ring, .int o_highestTold, .ref a_o_bestPlace, .ref a_o_stepCost, .ref a_o_kind, .ref a_o_likings])), (a_o_bestPlace, .inl (cI, 8, .inl o_bestPlace)), (a_o_stepCost, .inl (cI, 8, .inl o_stepCost)), (a_o_kind, .inl (cI, 8, .inl o_kind)), (a_o_likings, .inl (cI, 64, .inl o_likings))] s.heap := hP
  unfold f_X2_suitingCount at hf
  have L4 : ∀ (n : Nat) (x1 : Int32) (x2 : Int32) (x3 : Int32) (H : Heap) (locs : List Loc) (ls : Array Slot), f_X2_suitingCount_l4 o_persons o_ring o_bestPlace o_stepCost o_kind o_likings n x1 x2 x3 = some res → va_P (dC, dI) vwCl [(a_o, .inr (2, [.int o_persons, .int o_ring, .int o_highestTold, .ref a_o_bestPlace, .ref a_o_stepCost, .ref a_o_kind, .ref a_o_likings])), (a_o_bestPlace, .inl (cI, 8, .inl o_bestPlace)), (a_o_stepCost, .inl (cI, 8, .inl o_stepCost)), (a_o_kind, .inl (cI, 8, .inl o_kind)), (a_o_likings, .inl (cI, 64, .inl o_likings))] H → va_D A [(a_o, .inr (2, [.int o_persons, .int o_ring, .int o_highestTold, .ref a_o_bestPlace, .ref a_o_stepCost, .ref a_o_kind, .ref a_o_likings])), (a_o_bestPlace, .inl (cI, 8, .inl o_bestPlace)), (a_o_stepCost, .inl (cI, 8, .inl o_stepCost)), (a_o_kind, .inl (cI, 8, .inl o_kind)), (a_o_likings, .inl (cI, 64, .inl o_likings))] → va_S A s.heap H locs → lv_has ls 4 [(0, .ref a_o), (1, .int x1), (2, .int x2), (3, .int x3)] → W p l e (headSpec (kws yX2_suitingCount cX2_suitingCount 4 (some .int)) rm_X2_suitingCount).room s m args below meth c H locs 0 0 Q (F0 m 4 ls []) := by
    intro n
    induction n with
    | zero =>
      intro x1 x2 x3 H locs ls hf hP hD hS hl
      rw [f_X2_suitingCount_l4.eq_1] at hf
      cases hf
    | succ n4 ih4 =>
      have B24 : ∀ (x1 : Int32) (x2 : Int32) (x3 : Int32) (H : Heap) (locs : List Loc) (ls : Array Slot), f_X2_suitingCount_b24 o_persons o_ring o_bestPlace o_stepCost o_kind o_likings (f_X2_suitingCount_l4 o_persons o_ring o_bestPlace o_stepCost o_kind o_likings n4) x1 x2 x3 = some res → va_P (dC, dI) vwCl [(a_o, .inr (2, [.int o_persons, .int o_ring, .int o_highestTold, .ref a_o_bestPlace, .ref a_o_stepCost, .ref a_o_kind, .ref a_o_likings])), (a_o_bestPlace, .inl (cI, 8, .inl o_bestPlace)), (a_o_stepCost, .inl (cI, 8, .inl o_stepCost)), (a_o_kind, .inl (cI, 8, .inl o_kind)), (a_o_likings, .inl (cI, 64, .inl o_likings))] H → va_D A [(a_o, .inr (2, [.int o_persons, .int o_ring, .int o_highestTold, .ref a_o_bestPlace, .ref a_o_stepCost, .ref a_o_kind, .ref a_o_likings])), (a_o_bestPlace, .inl (cI, 8, .inl o_bestPlace)), (a_o_stepCost, .inl (cI, 8, .inl o_stepCost)), (a_o_kind, .inl (cI, 8, .inl o_kind)), (a_o_likings, .inl (cI, 64, .inl o_likings))] → va_S A s.heap H locs → lv_has ls 4 [(0, .ref a_o), (1, .int x1), (2, .int x2), (3, .int x3)] → W p l e (headSpec (kws yX2_suitingCount cX2_suitingCount 4 (some .int)) rm_X2_suitingCount).room s m args below meth c H locs 0 0 Q (F0 m 24 ls []) := by
        intro x1 x2 x3 H locs ls hf hP hD hS hl
        unfold f_X2_suitingCount_b24 at hf
        refine lv_iinc (v := (x3 + (1 : Int32))) (lv' := [(3, .int (x3 + (1 : Int32))), (0, .ref a_o), (1, .int x1), (2, .int x2)]) hx hb dX2_suitingCount_24 hl (k := 3) rfl rfl (by decide) rfl (fun ls hl => ?_)
        refine lv_goto (tgt := 4) hx hb dX2_suitingCount_27 (by decide) ?_
        exact ih4 x1 x2 (x3 + (1 : Int32)) H locs ls hf hP hD hS (lv_sub hl [1, 2, 3, 0] rfl)
      intro x1 x2 x3 H locs ls hf hP hD hS hl
      rw [f_X2_suitingCount_l4.eq_2] at hf
      refine lv_iload_n hx hb dX2_suitingCount_4 rfl (lv_at hl 3 rfl) ?_
      refine lv_aload_n hx hb dX2_suitingCount_5 rfl (lv_at hl 0 rfl) ?_
      obtain ⟨u_1, h_2, hf⟩ := obs hf
      refine kcVi (rest := [.int x3]) (wr := [(a_o_bestPlace, .inl (cI, 8, .inl o_bestPlace)), (a_o_stepCost, .inl (cI, 8, .inl o_stepCost)), (a_o_kind, .inl (cI, 8, .inl o_kind)), (a_o_likings, .inl (cI, 64, .inl o_likings))]) (w2 := fun _ => [(a_o, .inr (2, [.int o_persons, .int o_ring, .int o_highestTold, .ref a_o_bestPlace, .ref a_o_stepCost, .ref a_o_kind, .ref a_o_likings])), (a_o_bestPlace, .inl (cI, 8, .inl o_bestPlace)), (a_o_stepCost, .inl (cI, 8, .inl o_stepCost)), (a_o_kind, .inl (cI, 8, .inl o_kind)), (a_o_likings, .inl (cI, 64, .inl o_likings))]) hx hb hml hown ht (c_X2_changeCount l dC dI cI cJ cZ a_o a_o_bestPlace a_o_stepCost a_o_kind a_o_likings H.size o_persons o_ring o_highestTold u_1 h_2) (kcw 0 ht wd_2_145 wd_1_3 wd_2_142 kd_X2_changeCount ⟨rfl, rfl⟩ ⟨Nat.le_of_ble_eq_true rfl, Nat.le_of_ble_eq_true rfl⟩) wd_2_143 wd_2_144 hK hP hD hS hA [0] [1, 2, 3, 4] [4, 0, 1, 2, 3] rfl rfl rfl rfl (by decide) rfl (fun _ => rfl) (ci := 2) rfl rfl rfl rfl hl.1 rfl (Nat.le_of_ble_eq_true rfl) dX2_suitingCount_6 ⟨Nat.zero_le _, Nat.zero_le _⟩ (fun _ H locs hP hD hS => ?_)
      have hP : va_P (dC, dI) vwCl [(a_o, .inr (2, [.int o_persons, .int o_ring, .int o_highestTold, .ref a_o_bestPlace, .ref a_o_stepCost, .ref a_o_kind, .ref a_o_likings])), (a_o_bestPlace, .inl (cI, 8, .inl o_bestPlace)), (a_o_stepCost, .inl (cI, 8, .inl o_stepCost)), (a_o_kind, .inl (cI, 8, .inl o_kind)), (a_o_likings, .inl (cI, 64, .inl o_likings))] H := hP
      have hD : va_D A [(a_o, .inr (2, [.int o_persons, .int o_ring, .int o_highestTold, .ref a_o_bestPlace, .ref a_o_stepCost, .ref a_o_kind, .ref a_o_likings])), (a_o_bestPlace, .inl (cI, 8, .inl o_bestPlace)), (a_o_stepCost, .inl (cI, 8, .inl o_stepCost)), (a_o_kind, .inl (cI, 8, .inl o_kind)), (a_o_likings, .inl (cI, 64, .inl o_likings))] := hD
      refine lv_icmp_ge (tgt := 30) hx hb dX2_suitingCount_9 (by decide) (fun c_3 => ?_) (fun c_3 => ?_)
      · have hf := ifp c_3 hf
        refine lv_iload_n hx hb dX2_suitingCount_30 rfl (lv_at hl 2 rfl) ?_
        exact hret H locs ls 31 x2 hf dX2_suitingCount_31 hP hD hS
      · have hf := ifn c_3 hf
        refine lv_aload_n hx hb dX2_suitingCount_12 rfl (lv_at hl 0 rfl) ?_
        refine lv_iload_n hx hb dX2_suitingCount_13 rfl (lv_at hl 1 rfl) ?_
        refine lv_iload_n hx hb dX2_suitingCount_14 rfl (lv_at hl 3 rfl) ?_
        obtain ⟨u_4, h_5, hf⟩ := obs hf
        refine kcVi (rest := []) (wr := []) (w2 := fun _ => [(a_o, .inr (2, [.int o_persons, .int o_ring, .int o_highestTold, .ref a_o_bestPlace, .ref a_o_stepCost, .ref a_o_kind, .ref a_o_likings])), (a_o_bestPlace, .inl (cI, 8, .inl o_bestPlace)), (a_o_stepCost, .inl (cI, 8, .inl o_stepCost)), (a_o_kind, .inl (cI, 8, .inl o_kind)), (a_o_likings, .inl (cI, 64, .inl o_likings))]) hx hb hml hown ht (c_X2_changeSuits l dC dI cI cJ cZ a_o a_o_bestPlace a_o_stepCost a_o_kind a_o_likings H.size o_persons o_ring o_highestTold o_bestPlace o_stepCost o_kind o_likings x1 x3 u_4 h_5) (kcw 2 ht wd_2_167 wd_1_3 wd_3_227 kd_X2_changeSuits ⟨rfl, rfl⟩ ⟨Nat.le_of_ble_eq_true rfl, Nat.le_of_ble_eq_true rfl⟩) wd_2_165 wd_2_166 hK hP hD hS hA [0, 1, 2, 3, 4] [] [0, 1, 2, 3, 4] rfl rfl rfl rfl (by decide) rfl (fun _ => rfl) (ci := 2) rfl rfl rfl rfl hl.1 rfl (Nat.le_of_ble_eq_true rfl) dX2_suitingCount_15 ⟨Nat.zero_le _, Nat.zero_le _⟩ (fun _ H locs hP hD hS => ?_)
        have hP : va_P (dC, dI) vwCl [(a_o, .inr (2, [.int o_persons, .int o_ring, .int o_highestTold, .ref a_o_bestPlace, .ref a_o_stepCost, .ref a_o_kind, .ref a_o_likings])), (a_o_bestPlace, .inl (cI, 8, .inl o_bestPlace)), (a_o_stepCost, .inl (cI, 8, .inl o_stepCost)), (a_o_kind, .inl (cI, 8, .inl o_kind)), (a_o_likings, .inl (cI, 64, .inl o_likings))] H := hP
        have hD : va_D A [(a_o, .inr (2, [.int o_persons, .int o_ring, .int o_highestTold, .ref a_o_bestPlace, .ref a_o_stepCost, .ref a_o_kind, .ref a_o_likings])), (a_o_bestPlace, .inl (cI, 8, .inl o_bestPlace)), (a_o_stepCost, .inl (cI, 8, .inl o_stepCost)), (a_o_kind, .inl (cI, 8, .inl o_kind)), (a_o_likings, .inl (cI, 64, .inl o_likings))] := hD
        refine lv_if_eq (tgt := 24) hx hb dX2_suitingCount_18 (by decide) (fun c_6 => ?_) (fun c_6 => ?_)
        · have hf := ifp c_6 hf
          exact B24 x1 x2 x3 H locs ls hf hP hD hS (lv_sub hl [0, 1, 2, 3] rfl)
        · have hf := ifn c_6 hf
          refine lv_iinc (v := (x2 + (1 : Int32))) (lv' := [(2, .int (x2 + (1 : Int32))), (0, .ref a_o), (1, .int x1), (3, .int x3)]) hx hb dX2_suitingCount_21 hl (k := 2) rfl rfl (by decide) rfl (fun ls hl => ?_)
          exact B24 x1 (x2 + (1 : Int32)) x3 H locs ls hf hP hD hS (lv_sub hl [1, 2, 0, 3] rfl)
  obtain ⟨H, hH⟩ : ∃ H, H = s.heap := ⟨_, rfl⟩
  obtain ⟨locs, hlo⟩ : ∃ L : List Loc, L = [] := ⟨_, rfl⟩
  rw [← hH] at hP
  have hS : va_S A s.heap H locs := by rw [hH, hlo]; exact hS
  rw [show W p l e (headSpec (kws yX2_suitingCount cX2_suitingCount 4 (some .int)) rm_X2_suitingCount).room s m args below meth c s.heap [] 0 0 Q (F0 m 0 ls []) = W p l e (headSpec (kws yX2_suitingCount cX2_suitingCount 4 (some .int)) rm_X2_suitingCount).room s m args below meth c H locs 0 0 Q (F0 m 0 ls []) from by rw [hH, hlo]]
  refine lv_iconst (v := (0 : Int32)) hx hb dX2_suitingCount_0 (by decide) ?_
  refine lv_istore_n (lv' := [(2, .int (0 : Int32)), (0, .ref a_o), (1, .int x1)]) hx hb dX2_suitingCount_1 rfl hl (by decide) rfl (fun ls hl => ?_)
  refine lv_iconst (v := (0 : Int32)) hx hb dX2_suitingCount_2 (by decide) ?_
  refine lv_istore_n (lv' := [(3, .int (0 : Int32)), (2, .int (0 : Int32)), (0, .ref a_o), (1, .int x1)]) hx hb dX2_suitingCount_3 rfl hl (by decide) rfl (fun ls hl => ?_)
  exact L4 NF x1 (0 : Int32) (0 : Int32) H locs ls hf hP hD hS (lv_sub hl [2, 3, 1, 0] rfl)
