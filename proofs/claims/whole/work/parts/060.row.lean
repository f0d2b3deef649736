def f_X4_who (x0 : Int32) (x1 : Int32) : Option (Int32) := some ((x0 >>> (((3 : Int32) * x1) &&& 31)) &&& (7 : Int32))
abbrev rm_X4_who : Room := { frames := 0, cells := 0, slots := 0, locals := 0 }
theorem kd_X4_who : yX4_who.cls ≠ "java/lang/invoke/MethodHandle" ∧ yX4_who.cls ≠ "java/lang/invoke/VarHandle" ∧ (parseMethodDescriptor yX4_who.desc).map (fun d => d.parameters.length) = some 2 := by decide +kernel
set_option maxHeartbeats 4000000 in
set_option maxRecDepth 100000 in
theorem c_X4_who (l : Launch) (dC : Nat → ClassId) (dI : Nat → Nat → Nat) (cI cJ cZ : ClassId) (sz : Nat) (x0 : Int32) (x1 : Int32) (res : Int32) (hf : f_X4_who x0 x1 = some res) : kMi Unit l yX4_who cX4_who 2 (some .int) rm_X4_who [.int x0, .int x1] (dC, dI) (kT cI cJ cZ) sz [] res (fun _ => []) := by
  refine Met.ofW (cc := cX4_who) (maxL := 2) (ret := (some .int)) (by decide) rfl ?_
  intro p e s m args below meth c s₁ B hml hv
  obtain ⟨rfl, hsz, hP, hK, hD0⟩ := hv
  have hx := B.exec
  have hb := B.bytes
  have hr := B.returns
  have ht : ∀ w ∈ lw_g, w.before ([.int x0, .int x1] : List Value).toArray s = true := fun w h => atoms_spec (ws := kws yX4_who cX4_who 2 (some .int)) B.pre w (List.mem_cons_of_mem _ h)
  have hown : s.vm.findClass RX4 = some m.cls := findClass_of_methodNamed B.named
  have hlocks := B.notSynchronized
  subst hsz
  have hD := hD0.self (sz := s.heap.size)
  generalize hAe : va_A [] s.heap.size = A at hD ⊢
  have hA : ∀ q : Nat, s.heap.size ≤ q → A q := fun q h => by rw [← hAe]; exact Or.inr h
  have hS : va_S A s.heap s.heap [] := va_S.rf
  have hret : ∀ (H : Heap) (locs : List Loc) (ls : Array Slot) (pc : Nat) (v : Int32), some v = some res → decode cX4_who pc = .ok (.ireturn, 1) → va_P (dC, dI) vwCl [] H → va_D A [] → va_S A s.heap H locs → W p l e (headSpec (kws yX4_who cX4_who 2 (some .int)) rm_X4_who).room s m ([.int x0, .int x1] : List Value).toArray below meth c H locs 0 0 (MQ below (kQi Unit (dC, dI) A res (fun _ => [])) ([.int x0, .int x1] : List Value).toArray s 0 0 A) (F0 m pc ls [.int v]) := by
    intro H locs ls pc v he hd hP hD hS
    obtain rfl := Option.some.inj he
    exact kri hx hb hr hlocks () hP hD hS hd
  have hl := lv_entry ([.int x0, .int x1]) (n := 2) (Nat.le_of_ble_eq_true rfl)
  rw [lg_entry_eq]
  generalize (lg_sl ([.int x0, .int x1]) ++ List.replicate (2 - (lg_sl ([.int x0, .int x1])).length) Slot.unset).toArray = ls at hl ⊢
  have hl : lv_has ls 2 [(0, .int x0), (1, .int x1)] := hl
  generalize (MQ below _ ([.int x0, .int x1] : List Value).toArray s 0 0 A) = Q at hret ⊢
  generalize ([.int x0, .int x1] : List Value).toArray = args at ht hret ⊢
  have hP : va_P (dC, dI) vwCl [] s.heap := hP
  unfold f_X4_who at hf
  obtain ⟨H, hH⟩ : ∃ H, H = s.heap := ⟨_, rfl⟩
  obtain ⟨locs, hlo⟩ : ∃ L : List Loc, L = [] := ⟨_, rfl⟩
  rw [← hH] at hP
  have hS : va_S A s.heap H locs := by rw [hH, hlo]; exact hS
  rw [show W p l e (headSpec (kws yX4_who cX4_who 2 (some .int)) rm_X4_who).room s m args below meth c s.heap [] 0 0 Q (F0 m 0 ls []) = W p l e (headSpec (kws yX4_who cX4_who 2 (some .int)) rm_X4_who).room s m args below meth c H locs 0 0 Q (F0 m 0 ls []) from by rw [hH, hlo]]
  refine lv_iload_n hx hb dX4_who_0 rfl (lv_at hl 0 rfl) ?_
  refine lv_iconst (v := (3 : Int32)) hx hb dX4_who_1 (by decide) ?_
  refine lv_iload_n hx hb dX4_who_2 rfl (lv_at hl 1 rfl) ?_
  refine lv_imul hx hb dX4_who_3 ?_
  refine lv_ishr hx hb dX4_who_4 ?_
  refine lv_bipush (v := (7 : Int32)) hx hb dX4_who_5 (by decide) ?_
  refine lv_iand hx hb dX4_who_7 ?_
  exact hret H locs ls 8 ((x0 >>> (((3 : Int32) * x1) &&& 31)) &&& (7 : Int32)) hf dX4_who_8 hP hD hS
def f_X4_ordered_l4 : Nat → Int32 → Int32 → Int32 → Option (Int32)
  | 0, _, _, _ => none
  | n + 1, x0, x1, x2 => if x0 ≤ x2 then some x1 else (f_X4_ordered_l4 n) x0 (x1 ||| (x2 <<< (((3 : Int32) * x2) &&& 31))) (x2 + (1 : Int32))
def f_X4_ordered (x0 : Int32) : Option (Int32) := f_X4_ordered_l4 NF x0 (0 : Int32) (0 : Int32)
abbrev rm_X4_ordered : Room := { frames := 0, cells := 0, slots := 0, locals := 0 }
theorem kd_X4_ordered : yX4_ordered.cls ≠ "java/lang/invoke/MethodHandle" ∧ yX4_ordered.cls ≠ "java/lang/invoke/VarHandle" ∧ (parseMethodDescriptor yX4_ordered.desc).map (fun d => d.parameters.length) = some 1 := by decide +kernel
set_option maxHeartbeats 4000000 in
set_option maxRecDepth 100000 in
theorem c_X4_ordered (l : Launch) (dC : Nat → ClassId) (dI : Nat → Nat → Nat) (cI cJ cZ : ClassId) (sz : Nat) (x0 : Int32) (res : Int32) (hf : f_X4_ordered x0 = some res) : kMi Unit l yX4_ordered cX4_ordered 3 (some .int) rm_X4_ordered [.int x0] (dC, dI) (kT cI cJ cZ) sz [] res (fun _ => []) := by
  refine Met.ofW (cc := cX4_ordered) (maxL := 3) (ret := (some .int)) (by decide) rfl ?_
  intro p e s m args below meth c s₁ B hml hv
  obtain ⟨rfl, hsz, hP, hK, hD0⟩ := hv
  have hx := B.exec
  have hb := B.bytes
  have hr := B.returns
  have ht : ∀ w ∈ lw_g, w.before ([.int x0] : List Value).toArray s = true := fun w h => atoms_spec (ws := kws yX4_ordered cX4_ordered 3 (some .int)) B.pre w (List.mem_cons_of_mem _ h)
  have hown : s.vm.findClass RX4 = some m.cls := findClass_of_methodNamed B.named
  have hlocks := B.notSynchronized
  subst hsz
  have hD := hD0.self (sz := s.heap.size)
  generalize hAe : va_A [] s.heap.size = A at hD ⊢
  have hA : ∀ q : Nat, s.heap.size ≤ q → A q := fun q h => by rw [← hAe]; exact Or.inr h
  have hS : va_S A s.heap s.heap [] := va_S.rf
  have hret : ∀ (H : Heap) (locs : List Loc) (ls : Array Slot) (pc : Nat) (v : Int32), some v = some res → decode cX4_ordered pc = .ok (.ireturn, 1) → va_P (dC, dI) vwCl [] H → va_D A [] → va_S A s.heap H locs → W p l e (headSpec (kws yX4_ordered cX4_ordered 3 (some .int)) rm_X4_ordered).room s m ([.int x0] : List Value).toArray below meth c H locs 0 0 (MQ below (kQi Unit (dC, dI) A res (fun _ => [])) ([.int x0] : List Value).toArray s 0 0 A) (F0 m pc ls [.int v]) := by
    intro H locs ls pc v he hd hP hD hS
    obtain rfl := Option.some.inj he
    exact kri hx hb hr hlocks () hP hD hS hd
  have hl := lv_entry ([.int x0]) (n := 3) (Nat.le_of_ble_eq_true rfl)
  rw [lg_entry_eq]
  generalize (lg_sl ([.int x0]) ++ List.replicate (3 - (lg_sl ([.int x0])).length) Slot.unset).toArray = ls at hl ⊢
  have hl : lv_has ls 3 [(0, .int x0)] := hl
  generalize (MQ below _ ([.int x0] : List Value).toArray s 0 0 A) = Q at hret ⊢
  generalize ([.int x0] : List Value).toArray = args at ht hret ⊢
  have hP : va_P (dC, dI) vwCl [] s.heap := hP
  unfold f_X4_ordered at hf
  have L4 : ∀ (n : Nat) (x0 : Int32) (x1 : Int32) (x2 : Int32) (H : Heap) (locs : List Loc) (ls : Array Slot), f_X4_ordered_l4 n x0 x1 x2 = some res → va_P (dC, dI) vwCl [] H → va_D A [] → va_S A s.heap H locs → lv_has ls 3 [(0, .int x0), (1, .int x1), (2, .int x2)] → W p l e (headSpec (kws yX4_ordered cX4_ordered 3 (some .int)) rm_X4_ordered).room s m args below meth c H locs 0 0 Q (F0 m 4 ls []) := by
    intro n
    induction n with
    | zero =>
      intro x0 x1 x2 H locs ls hf hP hD hS hl
      rw [f_X4_ordered_l4.eq_1] at hf
      cases hf
    | succ n4 ih4 =>
      intro x0 x1 x2 H locs ls hf hP hD hS hl
      rw [f_X4_ordered_l4.eq_2] at hf
      refine lv_iload_n hx hb dX4_ordered_4 rfl (lv_at hl 2 rfl) ?_
      refine lv_iload_n hx hb dX4_ordered_5 rfl (lv_at hl 0 rfl) ?_
      refine lv_icmp_ge (tgt := 23) hx hb dX4_ordered_6 (by decide) (fun c_1 => ?_) (fun c_1 => ?_)
      · have hf := ifp c_1 hf
        refine lv_iload_n hx hb dX4_ordered_23 rfl (lv_at hl 1 rfl) ?_
        exact hret H locs ls 24 x1 hf dX4_ordered_24 hP hD hS
      · have hf := ifn c_1 hf
        refine lv_iload_n hx hb dX4_ordered_9 rfl (lv_at hl 1 rfl) ?_
        refine lv_iload_n hx hb dX4_ordered_10 rfl (lv_at hl 2 rfl) ?_
        refine lv_iconst (v := (3 : Int32)) hx hb dX4_ordered_11 (by decide) ?_
        refine lv_iload_n hx hb dX4_ordered_12 rfl (lv_at hl 2 rfl) ?_
        refine lv_imul hx hb dX4_ordered_13 ?_
        refine lv_ishl hx hb dX4_ordered_14 ?_
        refine lv_ior hx hb dX4_ordered_15 ?_
        refine lv_istore_n (lv' := [(1, .int (x1 ||| (x2 <<< (((3 : Int32) * x2) &&& 31)))), (0, .int x0), (2, .int x2)]) hx hb dX4_ordered_16 rfl hl (by decide) rfl (fun ls hl => ?_)
        refine lv_iinc (v := (x2 + (1 : Int32))) (lv' := [(2, .int (x2 + (1 : Int32))), (1, .int (x1 ||| (x2 <<< (((3 : Int32) * x2) &&& 31)))), (0, .int x0)]) hx hb dX4_ordered_17 hl (k := 2) rfl rfl (by decide) rfl (fun ls hl => ?_)
        refine lv_goto (tgt := 4) hx hb dX4_ordered_20 (by decide) ?_
        exact ih4 x0 (x1 ||| (x2 <<< (((3 : Int32) * x2) &&& 31))) (x2 + (1 : Int32)) H locs ls hf hP hD hS (lv_sub hl [2, 1, 0] rfl)
  obtain ⟨H, hH⟩ : ∃ H, H = s.heap := ⟨_, rfl⟩
  obtain ⟨locs, hlo⟩ : ∃ L : List Loc, L = [] := ⟨_, rfl⟩
  rw [← hH] at hP
  have hS : va_S A s.heap H locs := by rw [hH, hlo]; exact hS
  rw [show W p l e (headSpec (kws yX4_ordered cX4_ordered 3 (some .int)) rm_X4_ordered).room s m args below meth c s.heap [] 0 0 Q (F0 m 0 ls []) = W p l e (headSpec (kws yX4_ordered cX4_ordered 3 (some .int)) rm_X4_ordered).room s m args below meth c H locs 0 0 Q (F0 m 0 ls []) from by rw [hH, hlo]]
  refine lv_iconst (v := (0 : Int32)) hx hb dX4_ordered_0 (by decide) ?_
  refine lv_istore_n (lv' := [(1, .int (0 : Int32)), (0, .int x0)]) hx hb dX4_ordered_1 rfl hl (by decide) rfl (fun ls hl => ?_)
  refine lv_iconst (v := (0 : Int32)) hx hb dX4_ordered_2 (by decide) ?_
  refine lv_istore_n (lv' := [(2, .int (0 : Int32)), (1, .int (0 : Int32)), (0, .int x0)]) hx hb dX4_ordered_3 rfl hl (by decide) rfl (fun ls hl => ?_)
  exact L4 NF x0 (0 : Int32) (0 : Int32) H locs ls hf hP hD hS (lv_sub hl [2, 1, 0] rfl)
def f_X4_swapped (x0 : Int32) (x1 : Int32) (x2 : Int32) : Option (Int32) := Option.bind (f_X4_who x0 x1) (fun u_1 => Option.bind (f_X4_who x0 x2) (fun u_3 => some ((x0 ^^^ ((u_1 ^^^ u_3) <<< (((3 : Int32) * x1) &&& 31))) ^^^ ((u_1 ^^^ u_3) <<< (((3 : Int32) * x2) &&& 31)))))
abbrev rm_X4_swapped : Room := { frames := 1, cells := 0, slots := 0, locals := 21 }
theorem kd_X4_swapped : yX4_swapped.cls ≠ "java/lang/invoke/MethodHandle" ∧ yX4_swapped.cls ≠ "java/lang/invoke/VarHandle" ∧ (parseMethodDescriptor yX4_swapped.desc).map (fun d => d.parameters.length) = some 3 := by decide +kernel
set_option maxHeartbeats 4000000 in
set_option maxRecDepth 100000 in
theorem c_X4_swapped (l : Launch) (dC : Nat → ClassId) (dI : Nat → Nat → Nat) (cI cJ cZ : ClassId) (sz : Nat) (x0 : Int32) (x1 : Int32) (x2 : Int32) (res : Int32) (hf : f_X4_swapped x0 x1 x2 = some res) : kMi Unit l yX4_swapped cX4_swapped 4 (some .int) rm_X4_swapped [.int x0, .int x1, .int x2] (dC, dI) (kT cI cJ cZ) sz [] res (fun _ => []) := by
  refine Met.ofW (cc := cX4_swapped) (maxL := 4) (ret := (some .int)) (by decide) rfl ?_
  intro p e s m args below meth c s₁ B hml hv
  obtain ⟨rfl, hsz, hP, hK, hD0⟩ := hv
  have hx := B.exec
  have hb := B.bytes
  have hr := B.returns
  have ht : ∀ w ∈ lw_g, w.before ([.int x0, .int x1, .int x2] : List Value).toArray s = true := fun w h => atoms_spec (ws := kws yX4_swapped cX4_swapped 4 (some .int)) B.pre w (List.mem_cons_of_mem _ h)
  have hown : s.vm.findClass RX4 = some m.cls := findClass_of_methodNamed B.named
  have hlocks := B.notSynchronized
  subst hsz
  have hD := hD0.self (sz := s.heap.size)
  generalize hAe : va_A [] s.heap.size = A at hD ⊢
  have hA : ∀ q : Nat, s.heap.size ≤ q → A q := fun q h => by rw [← hAe]; exact Or.inr h
  have hS : va_S A s.heap s.heap [] := va_S.rf
  have hret : ∀ (H : Heap) (locs : List Loc) (ls : Array Slot) (pc : Nat) (v : Int32), some v = some res → decode cX4_swapped pc = .ok (.ireturn, 1) → va_P (dC, dI) vwCl [] H → va_D A [] → va_S A s.heap H locs → W p l e (headSpec (kws yX4_swapped cX4_swapped 4 (some .int)) rm_X4_swapped).room s m ([.int x0, .int x1, .int x2] : List Value).toArray below meth c H locs 0 0 (MQ below (kQi Unit (dC, dI) A res (fun _ => [])) ([.int x0, .int x1, .int x2] : List Value).toArray s 0 0 A) (F0 m pc ls [.int v]) := by
    intro H locs ls pc v he hd hP hD hS
    obtain rfl := Option.some.inj he
    exact kri hx hb hr hlocks () hP hD hS hd
  have hl := lv_entry ([.int x0, .int x1, .int x2]) (n := 4) (Nat.le_of_ble_eq_true rfl)
  rw [lg_entry_eq]
  generalize (lg_sl ([.int x0, .int x1, .int x2]) ++ List.replicate (4 - (lg_sl ([.int x0, .int x1, .int x2])).length) Slot.unset).toArray = ls at hl ⊢
  have hl : lv_has ls 4 [(0, .int x0), (1, .int x1), (2, .int x2)] := hl
  generalize (MQ below _ ([.int x0, .int x1, .int x2] : List Value).toArray s 0 0 A) = Q at hret ⊢
  generalize ([.int x0, .int x1, .int x2] : List Value).toArray = args at ht hret ⊢
  have hP : va_P (dC, dI) vwCl [] s.heap := hP
  unfold f_X4_swapped at hf
  obtain ⟨H, hH⟩ : ∃ H, H = s.heap := ⟨_, rfl⟩
  obtain ⟨locs, hlo⟩ : ∃ L : List Loc, L = [] := ⟨_, rfl⟩
  rw [← hH] at hP
  have hS : va_S A s.heap H locs := by rw [hH, hlo]; exact hS
  rw [show W p l e (headSpec (kws yX4_swapped cX4_swapped 4 (some .int)) rm_X4_swapped).room s m args below meth c s.heap [] 0 0 Q (F0 m 0 ls []) = W p l e (headSpec (kws yX4_swapped cX4_swapped 4 (some .int)) rm_X4_swapped).room s m args below meth c H locs 0 0 Q (F0 m 0 ls []) from by rw [hH, hlo]]
  refine lv_iload_n hx hb dX4_swapped_0 rfl (lv_at hl 0 rfl) ?_
  refine lv_iload_n hx hb dX4_swapped_1 rfl (lv_at hl 1 rfl) ?_
  obtain ⟨u_1, h_2, hf⟩ := obs hf
  refine kcSi (rest := []) (wr := []) (w2 := fun _ => []) hx hb hml hown ht (c_X4_who l dC dI cI cJ cZ H.size x0 x1 u_1 h_2) (kcw 2 ht wd_2_93 wd_1_12 wd_2_91 kd_X4_who ⟨rfl, rfl⟩ ⟨Nat.le_of_ble_eq_true rfl, Nat.le_of_ble_eq_true rfl⟩) wd_2_92 hK hP hD hS hA [] [] [] rfl rfl rfl rfl (by decide) rfl (fun _ => rfl) rfl hl.1 rfl (Nat.le_of_ble_eq_true rfl) dX4_swapped_2 ⟨Nat.zero_le _, Nat.zero_le _⟩ (fun _ H locs hP hD hS => ?_)
  have hP : va_P (dC, dI) vwCl [] H := hP
  have hD : va_D A [] := hD
  refine lv_iload_n hx hb dX4_swapped_5 rfl (lv_at hl 0 rfl) ?_
  refine lv_iload_n hx hb dX4_swapped_6 rfl (lv_at hl 2 rfl) ?_
  obtain ⟨u_3, h_4, hf⟩ := obs hf
  refine kcSi (rest := [.int u_1]) (wr := []) (w2 := fun _ => []) hx hb hml hown ht (c_X4_who l dC dI cI cJ cZ H.size x0 x2 u_3 h_4) (kcw 2 ht wd_2_93 wd_1_12 wd_2_91 kd_X4_who ⟨rfl, rfl⟩ ⟨Nat.le_of_ble_eq_true rfl, Nat.le_of_ble_eq_true rfl⟩) wd_2_92 hK hP hD hS hA [] [] [] rfl rfl rfl rfl (by decide) rfl (fun _ => rfl) rfl hl.1 rfl (Nat.le_of_ble_eq_true rfl) dX4_swapped_7 ⟨Nat.zero_le _, Nat.zero_le _⟩ (fun _ H locs hP hD hS => ?_)
  have hP : va_P (dC, dI) vwCl [] H := hP
  have hD : va_D A [] := hD
  refine lv_ixor hx hb dX4_swapped_10 ?_
  refine lv_istore_n (lv' := [(3, .int (u_1 ^^^ u_3)), (0, .int x0), (1, .int x1), (2, .int x2)]) hx hb dX4_swapped_11 rfl hl (by decide) rfl (fun ls hl => ?_)
  refine lv_iload_n hx hb dX4_swapped_12 rfl (lv_at hl 1 rfl) ?_
  refine lv_iload_n hx hb dX4_swapped_13 rfl (lv_at hl 0 rfl) ?_
  refine lv_iconst (v := (3 : Int32)) hx hb dX4_swapped_14 (by decide) ?_
  refine lv_iload_n hx hb dX4_swapped_15 rfl (lv_at hl 2 rfl) ?_
  refine lv_imul hx hb dX4_swapped_16 ?_
  refine lv_ishl hx hb dX4_swapped_17 ?_
  refine lv_ixor hx hb dX4_swapped_18 ?_
  refine lv_iload_n hx hb dX4_swapped_19 rfl (lv_at hl 0 rfl) ?_
  refine lv_iconst (v := (3 : Int32)) hx hb dX4_swapped_20 (by decide) ?_
  refine lv_iload_n hx hb dX4_swapped_21 rfl (lv_at hl 3 rfl) ?_
  refine lv_imul hx hb dX4_swapped_22 ?_
  refine lv_ishl hx hb dX4_swapped_23 ?_
  refine lv_ixor hx hb dX4_swapped_24 ?_
  exact hret H locs ls 25 ((x0 ^^^ ((u_1 ^^^ u_3) <<< (((3 : Int32) * x1) &&& 31))) ^^^ ((u_1 ^^^ u_3) <<< (((3 : Int32) * x2) &&& 31))) hf dX4_swapped_25 hP hD hS
def f_X4_placeOf_l2 : Nat → Int32 → Int32 → Int32 → Option (Int32)
  | 0, _, _, _ => none
  | n + 1, x0, x1, x2 => if (6 : Int32) ≤ x2 then some (0 : Int32) else Option.bind (f_X4_who x0 x2) (fun u_2 => if u_2 = x1 then some x2 else (f_X4_placeOf_l2 n) x0 x1 (x2 + (1 : Int32)))
def f_X4_placeOf (x0 : Int32) (x1 : Int32) : Option (Int32) := f_X4_placeOf_l2 NF x0 x1 (0 : Int32)
abbrev rm_X4_placeOf : Room := { frames := 1, cells := 0, slots := 0, locals := 21 }
theorem kd_X4_placeOf : yX4_placeOf.cls ≠ "java/lang/invoke/MethodHandle" ∧ yX4_placeOf.cls ≠ "java/lang/invoke/VarHandle" ∧ (parseMethodDescriptor yX4_placeOf.desc).map (fun d => d.parameters.length) = some 2 := by decide +kernel
set_option maxHeartbeats 4000000 in
set_option maxRecDepth 100000 in
theorem c_X4_placeOf (l : Launch) (dC : Nat → ClassId) (dI : Nat → Nat → Nat) (cI cJ cZ : ClassId) (sz : Nat) (x0 : Int32) (x1 : Int32) (res : Int32) (hf : f_X4_placeOf x0 x1 = some res) : kMi Unit l yX4_placeOf cX4_placeOf 3 (some .int) rm_X4_placeOf [.int x0, .int x1] (dC, dI) (kT cI cJ cZ) sz [] res (fun _ => []) := by
  refine Met.ofW (cc := cX4_placeOf) (maxL := 3) (ret := (some .int)) (by decide) rfl ?_
  intro p e s m args below meth c s₁ B hml hv
  obtain ⟨rfl, hsz, hP, hK, hD0⟩ := hv
  have hx := B.exec
  have hb := B.bytes
  have hr := B.returns
  have ht : ∀ w ∈ lw_g, w.before ([.int x0, .int x1] : List Value).toArray s = true := fun w h => atoms_spec (ws := kws yX4_placeOf cX4_placeOf 3 (some .int)) B.pre w (List.mem_cons_of_mem _ h)
  have hown : s.vm.findClass RX4 = some m.cls := findClass_of_methodNamed B.named
  have hlocks := B.notSynchronized
  subst hsz
  have hD := hD0.self (sz := s.heap.size)
  generalize hAe : va_A [] s.heap.size = A at hD ⊢
  have hA : ∀ q : Nat, s.heap.size ≤ q → A q := fun q h => by rw [← hAe]; exact Or.inr h
  have hS : va_S A s.heap s.heap [] := va_S.rf
  have hret : ∀ (H : Heap) (locs : List Loc) (ls : Array Slot) (pc : Nat) (v : Int32), some v = some res → decode cX4_placeOf pc = .ok (.ireturn, 1) → va_P (dC, dI) vwCl [] H → va_D A [] → va_S A s.heap H locs → W p l e (headSpec (kws yX4_placeOf cX4_placeOf 3 (some .int)) rm_X4_placeOf).room s m ([.int x0, .int x1] : List Value).toArray below meth c H locs 0 0 (MQ below (kQi Unit (dC, dI) A res (fun _ => [])) ([.int x0, .int x1] : List Value).toArray s 0 0 A) (F0 m pc ls [.int v]) := by
    intro H locs ls pc v he hd hP hD hS
    obtain rfl := Option.some.inj he
    exact kri hx hb hr hlocks () hP hD hS hd
  have hl := lv_entry ([.int x0, .int x1]) (n := 3) (Nat.le_of_ble_eq_true rfl)
  rw [lg_entry_eq]
  generalize (lg_sl ([.int x0, .int x1]) ++ List.replicate (3 - (lg_sl ([.int x0, .int x1])).length) Slot.unset).toArray = ls at hl ⊢
  have hl : lv_has ls 3 [(0, .int x0), (1, .int x1)] := hl
  generalize (MQ below _ ([.int x0, .int x1] : List Value).toArray s 0 0 A) = Q at hret ⊢
  generalize ([.int x0, .int x1] : List Value).toArray = args at ht hret ⊢
  have hP : va_P (dC, dI) vwCl [] s.heap := hP
  unfold f_X4_placeOf at hf
  have L2 : ∀ (n : Nat) (x0 : Int32) (x1 : Int32) (x2 : Int32) (H : Heap) (locs : List Loc) (ls : Array Slot), f_X4_placeOf_l2 n x0 x1 x2 = some res → va_P (dC, dI) vwCl [] H → va_D A [] → va_S A s.heap H locs → lv_has ls 3 [(0, .int x0), (1, .int x1), (2, .int x2)] → W p l e (headSpec (kws yX4_placeOf cX4_placeOf 3 (some .int)) rm_X4_placeOf).room s m args below meth c H locs 0 0 Q (F0 m 2 ls []) := by
    intro n
    induction n with
    | zero =>
      intro x0 x1 x2 H locs ls hf hP hD hS hl
      rw [f_X4_placeOf_l2.eq_1] at hf
      cases hf
    | succ n2 ih2 =>
      intro x0 x1 x2 H locs ls hf hP hD hS hl
      rw [f_X4_placeOf_l2.eq_2] at hf
      refine lv_iload_n hx hb dX4_placeOf_2 rfl (lv_at hl 2 rfl) ?_
      refine lv_bipush (v := (6 : Int32)) hx hb dX4_placeOf_3 (by decide) ?_
      refine lv_icmp_ge (tgt := 25) hx hb dX4_placeOf_5 (by decide) (fun c_1 => ?_) (fun c_1 => ?_)
      · have hf := ifp c_1 hf
        refine lv_iconst (v := (0 : Int32)) hx hb dX4_placeOf_25 (by decide) ?_
        exact hret H locs ls 26 (0 : Int32) hf dX4_placeOf_26 hP hD hS
      · have hf := ifn c_1 hf
        refine lv_iload_n hx hb dX4_placeOf_8 rfl (lv_at hl 0 rfl) ?_
        refine lv_iload_n hx hb dX4_placeOf_9 rfl (lv_at hl 2 rfl) ?_
        obtain ⟨u_2, h_3, hf⟩ := obs hf
        refine kcSi (rest := []) (wr := []) (w2 := fun _ => []) hx hb hml hown ht (c_X4_who l dC dI cI cJ cZ H.size x0 x2 u_2 h_3) (kcw 2 ht wd_2_93 wd_1_12 wd_2_91 kd_X4_who ⟨rfl, rfl⟩ ⟨Nat.le_of_ble_eq_true rfl, Nat.le_of_ble_eq_true rfl⟩) wd_2_92 hK hP hD hS hA [] [] [] rfl rfl rfl rfl (by decide) rfl (fun _ => rfl) rfl hl.1 rfl (Nat.le_of_ble_eq_true rfl) dX4_placeOf_10 ⟨Nat.zero_le _, Nat.zero_le _⟩ (fun _ H locs hP hD hS => ?_)
        have hP : va_P (dC, dI) vwCl [] H := hP
        have hD : va_D A [] := hD
        refine lv_iload_n hx hb dX4_placeOf_13 rfl (lv_at hl 1 rfl) ?_
        refine lv_icmp_ne (tgt := 19) hx hb dX4_placeOf_14 (by decide) (fun c_4 => ?_) (fun c_4 => ?_)
        · have hf := ifn c_4 hf
          refine lv_iinc (v := (x2 + (1 : Int32))) (lv' := [(2, .int (x2 + (1 : Int32))), (0, .int x0), (1, .int x1)]) hx hb dX4_placeOf_19 hl (k := 2) rfl rfl (by decide) rfl (fun ls hl => ?_)
          refine lv_goto (tgt := 2) hx hb dX4_placeOf_22 (by decide) ?_
          exact ih2 x0 x1 (x2 + (1 : Int32)) H locs ls hf hP hD hS (lv_sub hl [1, 2, 0] rfl)
        · have hf := ifp c_4 hf
          refine lv_iload_n hx hb dX4_placeOf_17 rfl (lv_at hl 2 rfl) ?_
          exact hret H locs ls 18 x2 hf dX4_placeOf_18 hP hD hS
  obtain ⟨H, hH⟩ : ∃ H, H = s.heap := ⟨_, rfl⟩
  obtain ⟨locs, hlo⟩ : ∃ L : List Loc, L = [] := ⟨_, rfl⟩
  rw [← hH] at hP
  have hS : va_S A s.heap H locs := by rw [hH, hlo]; exact hS
  rw [show W p l e (headSpec (kws yX4_placeOf cX4_placeOf 3 (some .int)) rm_X4_placeOf).room s m args below meth c s.heap [] 0 0 Q (F0 m 0 ls []) = W p l e (headSpec (kws yX4_placeOf cX4_placeOf 3 (some .int)) rm_X4_placeOf).room s m args below meth c H locs 0 0 Q (F0 m 0 ls []) from by rw [hH, hlo]]
  refine lv_iconst (v := (0 : Int32)) hx hb dX4_placeOf_0 (by decide) ?_
  refine lv_istore_n (lv' := [(2, .int (0 : Int32)), (0, .int x0), (1, .int x1)]) hx hb dX4_placeOf_1 rfl hl (by decide) rfl (fun ls hl => ?_)
  exact L2 NF x0 x1 (0 : Int32) H locs ls hf hP hD hS (lv_sub hl [1, 2, 0] rfl)
def f_X4_following_l81 : Nat → Int32 → Int32 → Int32 → Option (Int32)
  | 0, _, _, _ => none
  | n + 1, x4, x5, x6 => if x6 ≤ x5 then some x4 else Option.bind (f_X4_swapped x4 x5 x6) (fun u_2 => (f_X4_following_l81 n) u_2 (x5 + (1 : Int32)) (x6 + (-1 : Int32)))
def f_X4_following_b63 (x0 : Int32) (x1 : Int32) (x2 : Int32) (x3 : Int32) : Option (Int32) := Option.bind (f_X4_swapped x0 x2 x3) (fun u_4 => f_X4_following_l81 NF u_4 (x2 + (1 : Int32)) (x1 - (1 : Int32)))
def f_X4_following_l39 : Nat → Int32 → Int32 → Int32 → Int32 → Option (Int32)
  | 0, _, _, _, _ => none
  | n + 1, x0, x1, x2, x3 => if x3 ≤ x2 then f_X4_following_b63 x0 x1 x2 x3 else Option.bind (f_X4_who x0 x3) (fun u_7 => Option.bind (f_X4_who x0 x2) (fun u_9 => if u_9 ≤ u_7 then f_X4_following_b63 x0 x1 x2 x3 else (f_X4_following_l39 n) x0 x1 x2 (x3 + (-1 : Int32))))
def f_X4_following_b29 (x0 : Int32) (x1 : Int32) (x2 : Int32) : Option (Int32) := if 0 ≤ x2 then f_X4_following_l39 NF x0 x1 x2 (x1 - (1 : Int32)) else some (-1 : Int32)
def f_X4_following_l4 : Nat → Int32 → Int32 → Int32 → Option (Int32)
  | 0, _, _, _ => none
  | n + 1, x0, x1, x2 => if x2 < 0 then f_X4_following_b29 x0 x1 x2 else Option.bind (f_X4_who x0 x2) (fun u_14 => Option.bind (f_X4_who x0 (x2 + (1 : Int32))) (fun u_16 => if u_14 ≤ u_16 then f_X4_following_b29 x0 x1 x2 else (f_X4_following_l4 n) x0 x1 (x2 + (-1 : Int32))))
def f_X4_following (x0 : Int32) (x1 : Int32) : Option (Int32) := f_X4_following_l4 NF x0 x1 (x1 - (2 : Int32))
abbrev rm_X4_following : Room := { frames := 2, cells := 0, slots := 0, locals := 44 }
theorem kd_X4_following : yX4_following.cls ≠ "java/lang/invoke/MethodHandle" ∧ yX4_following.cls ≠ "java/lang/invoke/VarHandle" ∧ (parseMethodDescriptor yX4_following.desc).map (fun d => d.parameters.length) = some 2 := by decide +kernel
set_option maxHeartbeats 4000000 in
set_option maxRecDepth 100000 in
theorem c_X4_following (l : Launch) (dC : Nat → ClassId) (dI : Nat → Nat → Nat) (cI cJ cZ : ClassId) (sz : Nat) (x0 : Int32) (x1 : Int32) (res : Int32) (hf : f_X4_following x0 x1 = some res) : kMi Unit l yX4_following cX4_following 7 (some .int) rm_X4_following [.int x0, .int x1] (dC, dI) (kT cI cJ cZ) sz [] res (fun _ => []) := by
  refine Met.ofW (cc := cX4_following) (maxL := 7) (ret := (some .int)) (by decide) rfl ?_
  intro p e s m args below meth c s₁ B hml hv
  obtain ⟨rfl, hsz, hP, hK, hD0⟩ := hv
  have hx := B.exec
  have hb := B.bytes
  have hr := B.returns
  have ht : ∀ w ∈ lw_g, w.before ([.int x0, .int x1] : List Value).toArray s = true := fun w h => atoms_spec (ws := kws yX4_following cX4_following 7 (some .int)) B.pre w (List.mem_cons_of_mem _ h)
  have hown : s.vm.findClass RX4 = some m.cls := findClass_of_methodNamed B.named
  have hlocks := B.notSynchronized
  subst hsz
  have hD := hD0.self (sz := s.heap.size)
  generalize hAe : va_A [] s.heap.size = A at hD ⊢
  have hA : ∀ q : Nat, s.heap.size ≤ q → A q := fun q h => by rw [← hAe]; exact Or.inr h
  have hS : va_S A s.heap s.heap [] := va_S.rf
  have hret : ∀ (H : Heap) (locs : List Loc) (ls : Array Slot) (pc : Nat) (v : Int32), some v = some res → decode cX4_following pc = .ok (.ireturn, 1) → va_P (dC, dI) vwCl [] H → va_D A [] → va_S A s.heap H locs → W p l e (headSpec (kws yX4_following cX4_following 7 (some .int)) rm_X4_following).room s m ([.int x0, .int x1] : List Value).toArray below meth c H locs 0 0 (MQ below (kQi Unit (dC, dI) A res (fun _ => [])) ([.int x0, .int x1] : List Value).toArray s 0 0 A) (F0 m pc ls [.int v]) := by
    intro H locs ls pc v he hd hP hD hS
    obtain rfl := Option.some.inj he
    exact kri hx hb hr hlocks () hP hD hS hd
  have hl := lv_entry ([.int x0, .int x1]) (n := 7) (Nat.le_of_ble_eq_true rfl)
  rw [lg_entry_eq]
  generalize (lg_sl ([.int x0, .int x1]) ++ List.replicate (7 - (lg_sl ([.int x0, .int x1])).length) Slot.unset).toArray = ls at hl ⊢
  have hl : lv_has ls 7 [(0, .int x0), (1, .int x1)] := hl
  generalize (MQ below _ ([.int x0, .int x1] : List Value).toArray s 0 0 A) = Q at hret ⊢
  generalize ([.int x0, .int x1] : List Value).toArray = args at ht hret ⊢
  have hP : va_P (dC, dI) vwCl [] s.heap := hP
  unfold f_X4_following at hf
  have L81 : ∀ (n : Nat) (x4 : Int32) (x5 : Int32) (x6 : Int32) (H : Heap) (locs : List Loc) (ls : Array Slot), f_X4_following_l81 n x4 x5 x6 = some res → va_P (dC, dI) vwCl [] H → va_D A [] → va_S A s.heap H locs → lv_has ls 7 [(4, .int x4), (5, .int x5), (6, .int x6)] → W p l e (headSpec (kws yX4_following cX4_following 7 (some .int)) rm_X4_following).room s m args below meth c H locs 0 0 Q (F0 m 81 ls []) := by
    intro n
    induction n with
    | zero =>
      intro x4 x5 x6 H locs ls hf hP hD hS hl
      rw [f_X4_following_l81.eq_1] at hf
      cases hf
    | succ n81 ih81 =>
      intro x4 x5 x6 H locs ls hf hP hD hS hl
      rw [f_X4_following_l81.eq_2] at hf
      refine lv_iload hx hb dX4_following_81 (lv_at hl 1 rfl) ?_
      refine lv_iload hx hb dX4_following_83 (lv_at hl 2 rfl) ?_
      refine lv_icmp_ge (tgt := 108) hx hb dX4_following_85 (by decide) (fun c_1 => ?_) (fun c_1 => ?_)
      · have hf := ifp c_1 hf
        refine lv_iload hx hb dX4_following_108 (lv_at hl 0 rfl) ?_
        exact hret H locs ls 110 x4 hf dX4_following_110 hP hD hS
      · have hf := ifn c_1 hf
        refine lv_iload hx hb dX4_following_88 (lv_at hl 0 rfl) ?_
        refine lv_iload hx hb dX4_following_90 (lv_at hl 1 rfl) ?_
        refine lv_iload hx hb dX4_following_92 (lv_at hl 2 rfl) ?_
        obtain ⟨u_2, h_3, hf⟩ := obs hf
        refine kcSi (rest := []) (wr := []) (w2 := fun _ => []) hx hb hml hown ht (c_X4_swapped l dC dI cI cJ cZ H.size x4 x5 x6 u_2 h_3) (kcw 3 ht wd_2_156 wd_1_12 wd_3_7 kd_X4_swapped ⟨rfl, rfl⟩ ⟨Nat.le_of_ble_eq_true rfl, Nat.le_of_ble_eq_true rfl⟩) wd_2_155 hK hP hD hS hA [] [] [] rfl rfl rfl rfl (by decide) rfl (fun _ => rfl) rfl hl.1 rfl (Nat.le_of_ble_eq_true rfl) dX4_following_94 ⟨Nat.zero_le _, Nat.zero_le _⟩ (fun _ H locs hP hD hS => ?_)
        have hP : va_P (dC, dI) vwCl [] H := hP
        have hD : va_D A [] := hD
        refine lv_istore (lv' := [(4, .int u_2), (5, .int x5), (6, .int x6)]) hx hb dX4_following_97 hl (by decide) rfl (fun ls hl => ?_)
        refine lv_iinc (v := (x5 + (1 : Int32))) (lv' := [(5, .int (x5 + (1 : Int32))), (4, .int u_2), (6, .int x6)]) hx hb dX4_following_99 hl (k := 1) rfl rfl (by decide) rfl (fun ls hl => ?_)
        refine lv_iinc (v := (x6 + (-1 : Int32))) (lv' := [(6, .int (x6 + (-1 : Int32))), (5, .int (x5 + (1 : Int32))), (4, .int u_2)]) hx hb dX4_following_102 hl (k := 2) rfl rfl (by decide) rfl (fun ls hl => ?_)
        refine lv_goto (tgt := 81) hx hb dX4_following_105 (by decide) ?_
        exact ih81 u_2 (x5 + (1 : Int32)) (x6 + (-1 : Int32)) H locs ls hf hP hD hS (lv_sub hl [2, 1, 0] rfl)
  have B63 : ∀ (x0 : Int32) (x1 : Int32) (x2 : Int32) (x3 : Int32) (H : Heap) (locs : List Loc) (ls : Array Slot), f_X4_following_b63 x0 x1 x2 x3 = some res → va_P (dC, dI) vwCl [] H → va_D A [] → va_S A s.heap H locs → lv_has ls 7 [(0, .int x0), (1, .int x1), (2, .int x2), (3, .int x3)] → W p l e (headSpec (kws yX4_following cX4_following 7 (some .int)) rm_X4_following).room s m args below meth c H locs 0 0 Q (F0 m 63 ls []) := by
    intro x0 x1 x2 x3 H locs ls hf hP hD hS hl
    unfold f_X4_following_b63 at hf
    refine lv_iload_n hx hb dX4_following_63 rfl (lv_at hl 0 rfl) ?_
    refine lv_iload_n hx hb dX4_following_64 rfl (lv_at hl 2 rfl) ?_
    refine lv_iload_n hx hb dX4_following_65 rfl (lv_at hl 3 rfl) ?_
    obtain ⟨u_4, h_5, hf⟩ := obs hf
    refine kcSi (rest := []) (wr := []) (w2 := fun _ => []) hx hb hml hown ht (c_X4_swapped l dC dI cI cJ cZ H.size x0 x2 x3 u_4 h_5) (kcw 3 ht wd_2_156 wd_1_12 wd_3_7 kd_X4_swapped ⟨rfl, rfl⟩ ⟨Nat.le_of_ble_eq_true rfl, Nat.le_of_ble_eq_true rfl⟩) wd_2_155 hK hP hD hS hA [] [] [] rfl rfl rfl rfl (by decide) rfl (fun _ => rfl) rfl hl.1 rfl (Nat.le_of_ble_eq_true rfl) dX4_following_66 ⟨Nat.zero_le _, Nat.zero_le _⟩ (fun _ H locs hP hD hS => ?_)
    have hP : va_P (dC, dI) vwCl [] H := hP
    have hD : va_D A [] := hD
    refine lv_istore (lv' := [(4, .int u_4), (0, .int x0), (1, .int x1), (2, .int x2), (3, .int x3)]) hx hb dX4_following_69 hl (by decide) rfl (fun ls hl => ?_)
    refine lv_iload_n hx hb dX4_following_71 rfl (lv_at hl 3 rfl) ?_
    refine lv_iconst (v := (1 : Int32)) hx hb dX4_following_72 (by decide) ?_
    refine lv_iadd hx hb dX4_following_73 ?_
    refine lv_istore (lv' := [(5, .int (x2 + (1 : Int32))), (4, .int u_4), (0, .int x0), (1, .int x1), (2, .int x2), (3, .int x3)]) hx hb dX4_following_74 hl (by decide) rfl (fun ls hl => ?_)
    refine lv_iload_n hx hb dX4_following_76 rfl (lv_at hl 3 rfl) ?_
    refine lv_iconst (v := (1 : Int32)) hx hb dX4_following_77 (by decide) ?_
    refine lv_isub hx hb dX4_following_78 ?_
    refine lv_istore (lv' := [(6, .int (x1 - (1 : Int32))), (5, .int (x2 + (1 : Int32))), (4, .int u_4), (0, .int x0), (1, .int x1), (2, .int x2), (3, .int x3)]) hx hb dX4_following_79 hl (by decide) rfl (fun ls hl => ?_)
    exact L81 NF u_4 (x2 + (1 : Int32)) (x1 - (1 : Int32)) H locs ls hf hP hD hS (lv_sub hl [2, 1, 0] rfl)
  have L39 : ∀ (n : Nat) (x0 : Int32) (x1 : Int32) (x2 : Int32) (x3 : Int32) (H : Heap) (locs : List Loc) (ls : Array Slot), f_X4_following_l39 n x0 x1 x2 x3 = some res → va_P (dC, dI) vwCl [] H → va_D A [] → va_S A s.heap H locs → lv_has ls 7 [(0, .int x0), (1, .int x1), (2, .int x2), (3, .int x3)] → W p l e (headSpec (kws yX4_following cX4_following 7 (some .int)) rm_X4_following).room s m args below meth c H locs 0 0 Q (F0 m 39 ls []) := by
    intro n
    induction n with
    | zero =>
      intro x0 x1 x2 x3 H locs ls hf hP hD hS hl
      rw [f_X4_following_l39.eq_1] at hf
      cases hf
    | succ n39 ih39 =>
      intro x0 x1 x2 x3 H locs ls hf hP hD hS hl
      rw [f_X4_following_l39.eq_2] at hf
      refine lv_iload_n hx hb dX4_following_39 rfl (lv_at hl 3 rfl) ?_
      refine lv_iload_n hx hb dX4_following_40 rfl (lv_at hl 2 rfl) ?_
      refine lv_icmp_le (tgt := 63) hx hb dX4_following_41 (by decide) (fun c_6 => ?_) (fun c_6 => ?_)
      · have hf := ifp c_6 hf
        exact B63 x0 x1 x2 x3 H locs ls hf hP hD hS (lv_sub hl [0, 1, 2, 3] rfl)
      · have hf := ifn c_6 hf
        refine lv_iload_n hx hb dX4_following_44 rfl (lv_at hl 0 rfl) ?_
        refine lv_iload_n hx hb dX4_following_45 rfl (lv_at hl 3 rfl) ?_
        obtain ⟨u_7, h_8, hf⟩ := obs hf
        refine kcSi (rest := []) (wr := []) (w2 := fun _ => []) hx hb hml hown ht (c_X4_who l dC dI cI cJ cZ H.size x0 x3 u_7 h_8) (kcw 2 ht wd_2_93 wd_1_12 wd_2_91 kd_X4_who ⟨rfl, rfl⟩ ⟨Nat.le_of_ble_eq_true rfl, Nat.le_of_ble_eq_true rfl⟩) wd_2_92 hK hP hD hS hA [] [] [] rfl rfl rfl rfl (by decide) rfl (fun _ => rfl) rfl hl.1 rfl (Nat.le_of_ble_eq_true rfl) dX4_following_46 ⟨Nat.zero_le _, Nat.zero_le _⟩ (fun _ H locs hP hD hS => ?_)
        have hP : va_P (dC, dI) vwCl [] H := hP
        have hD : va_D A [] := hD
        refine lv_iload_n hx hb dX4_following_49 rfl (lv_at hl 0 rfl) ?_
        refine lv_iload_n hx hb dX4_following_50 rfl (lv_at hl 2 rfl) ?_
        obtain ⟨u_9, h_10, hf⟩ := obs hf
        refine kcSi (rest := [.int u_7]) (wr := []) (w2 := fun _ => []) hx hb hml hown ht (c_X4_who l dC dI cI cJ cZ H.size x0 x2 u_9 h_10) (kcw 2 ht wd_2_93 wd_1_12 wd_2_91 kd_X4_who ⟨rfl, rfl⟩ ⟨Nat.le_of_ble_eq_true rfl, Nat.le_of_ble_eq_true rfl⟩) wd_2_92 hK hP hD hS hA [] [] [] rfl rfl rfl rfl (by decide) rfl (fun _ => rfl) rfl hl.1 rfl (Nat.le_of_ble_eq_true rfl) dX4_following_51 ⟨Nat.zero_le _, Nat.zero_le _⟩ (fun _ H locs hP hD hS => ?_)
        have hP : va_P (dC, dI) vwCl [] H := hP
        have hD : va_D A [] := hD
        refine lv_icmp_ge (tgt := 63) hx hb dX4_following_54 (by decide) (fun c_11 => ?_) (fun c_11 => ?_)
        · have hf := ifp c_11 hf
          exact B63 x0 x1 x2 x3 H locs ls hf hP hD hS (lv_sub hl [0, 1, 2, 3] rfl)
        · have hf := ifn c_11 hf
          refine lv_iinc (v := (x3 + (-1 : Int32))) (lv' := [(3, .int (x3 + (-1 : Int32))), (0, .int x0), (1, .int x1), (2, .int x2)]) hx hb dX4_following_57 hl (k := 3) rfl rfl (by decide) rfl (fun ls hl => ?_)
          refine lv_goto (tgt := 39) hx hb dX4_following_60 (by decide) ?_
          exact ih39 x0 x1 x2 (x3 + (-1 : Int32)) H locs ls hf hP hD hS (lv_sub hl [1, 2, 3, 0] rfl)
  have B29 : ∀ (x0 : Int32) (x1 : Int32) (x2 : Int32) (H : Heap) (locs : List Loc) (ls : Array Slot), f_X4_following_b29 x0 x1 x2 = some res → va_P (dC, dI) vwCl [] H → va_D A [] → va_S A s.heap H locs → lv_has ls 7 [(0, .int x0), (1, .int x1), (2, .int x2)] → W p l e (headSpec (kws yX4_following cX4_following 7 (some .int)) rm_X4_following).room s m args below meth c H locs 0 0 Q (F0 m 29 ls []) := by
    intro x0 x1 x2 H locs ls hf hP hD hS hl
    unfold f_X4_following_b29 at hf
    refine lv_iload_n hx hb dX4_following_29 rfl (lv_at hl 2 rfl) ?_
    refine lv_if_ge (tgt := 35) hx hb dX4_following_30 (by decide) (fun c_12 => ?_) (fun c_12 => ?_)
    · have hf := ifp c_12 hf
      refine lv_iload_n hx hb dX4_following_35 rfl (lv_at hl 1 rfl) ?_
      refine lv_iconst (v := (1 : Int32)) hx hb dX4_following_36 (by decide) ?_
      refine lv_isub hx hb dX4_following_37 ?_
      refine lv_istore_n (lv' := [(3, .int (x1 - (1 : Int32))), (0, .int x0), (1, .int x1), (2, .int x2)]) hx hb dX4_following_38 rfl hl (by decide) rfl (fun ls hl => ?_)
      exact L39 NF x0 x1 x2 (x1 - (1 : Int32)) H locs ls hf hP hD hS (lv_sub hl [1, 2, 3, 0] rfl)
    · have hf := ifn c_12 hf
      refine lv_iconst (v := (-1 : Int32)) hx hb dX4_following_33 (by decide) ?_
      exact hret H locs ls 34 (-1 : Int32) hf dX4_following_34 hP hD hS
  have L4 : ∀ (n : Nat) (x0 : Int32) (x1 : Int32) (x2 : Int32) (H : Heap) (locs : List Loc) (ls : Array Slot), f_X4_following_l4 n x0 x1 x2 = some res → va_P (dC, dI) vwCl [] H → va_D A [] → va_S A s.heap H locs → lv_has ls 7 [(0, .int x0), (1, .int x1), (2, .int x2)] → W p l e (headSpec (kws yX4_following cX4_following 7 (some .int)) rm_X4_following).room s m args below meth c H locs 0 0 Q (F0 m 4 ls []) := by
    intro n
    induction n with
    | zero =>
      intro x0 x1 x2 H locs ls hf hP hD hS hl
      rw [f_X4_following_l4.eq_1] at hf
      cases hf
    | succ n4 ih4 =>
      intro x0 x1 x2 H locs ls hf hP hD hS hl
      rw [f_X4_following_l4.eq_2] at hf
      refine lv_iload_n hx hb dX4_following_4 rfl (lv_at hl 2 rfl) ?_
      refine lv_if_lt (tgt := 29) hx hb dX4_following_5 (by decide) (fun c_13 => ?_) (fun c_13 => ?_)
      · have hf := ifp c_13 hf
        exact B29 x0 x1 x2 H locs ls hf hP hD hS (lv_sub hl [0, 1, 2] rfl)
      · have hf := ifn c_13 hf
        refine lv_iload_n hx hb dX4_following_8 rfl (lv_at hl 0 rfl) ?_
        refine lv_iload_n hx hb dX4_following_9 rfl (lv_at hl 2 rfl) ?_
        obtain ⟨u_14, h_15, hf⟩ := obs hf
        refine kcSi (rest := []) (wr := []) (w2 := fun _ => []) hx hb hml hown ht (c_X4_who l dC dI cI cJ cZ H.size x0 x2 u_14 h_15) (kcw 2 ht wd_2_93 wd_1_12 wd_2_91 kd_X4_who ⟨rfl, rfl⟩ ⟨Nat.le_of_ble_eq_true rfl, Nat.le_of_ble_eq_true rfl⟩) wd_2_92 hK hP hD hS hA [] [] [] rfl rfl rfl rfl (by decide) rfl (fun _ => rfl) rfl hl.1 rfl (Nat.le_of_ble_eq_true rfl) dX4_following_10 ⟨Nat.zero_le _, Nat.zero_le _⟩ (fun _ H locs hP hD hS => ?_)
        have hP : va_P (dC, dI) vwCl [] H := hP
        have hD : va_D A [] := hD
        refine lv_iload_n hx hb dX4_following_13 rfl (lv_at hl 0 rfl) ?_
        refine lv_iload_n hx hb dX4_following_14 rfl (lv_at hl 2 rfl) ?_
        refine lv_iconst (v := (1 : Int32)) hx hb dX4_following_15 (by decide) ?_
        refine lv_iadd hx hb dX4_following_16 ?_
        obtain ⟨u_16, h_17, hf⟩ := obs hf
        refine kcSi (rest := [.int u_14]) (wr := []) (w2 := fun _ => []) hx hb hml hown ht (c_X4_who l dC dI cI cJ cZ H.size x0 (x2 + (1 : Int32)) u_16 h_17) (kcw 2 ht wd_2_93 wd_1_12 wd_2_91 kd_X4_who ⟨rfl, rfl⟩ ⟨Nat.le_of_ble_eq_true rfl, Nat.le_of_ble_eq_true rfl⟩) wd_2_92 hK hP hD hS hA [] [] [] rfl rfl rfl rfl (by decide) rfl (fun _ => rfl) rfl hl.1 rfl (Nat.le_of_ble_eq_true rfl) dX4_following_17 ⟨Nat.zero_le _, Nat.zero_le _⟩ (fun _ H locs hP hD hS => ?_)
        have hP : va_P (dC, dI) vwCl [] H := hP
        have hD : va_D A [] := hD
        refine lv_icmp_le (tgt := 29) hx hb dX4_following_20 (by decide) (fun c_18 => ?_) (fun c_18 => ?_)
        · have hf := ifp c_18 hf
          exact B29 x0 x1 x2 H locs ls hf hP hD hS (lv_sub hl [0, 1, 2] rfl)
        · have hf := ifn c_18 hf
          refine lv_iinc (v := (x2 + (-1 : Int32))) (lv' := [(2, .int (x2 + (-1 : Int32))), (0, .int x0), (1, .int x1)]) hx hb dX4_following_23 hl (k := 2) rfl rfl (by decide) rfl (fun ls hl => ?_)
          refine lv_goto (tgt := 4) hx hb dX4_following_26 (by decide) ?_
          exact ih4 x0 x1 (x2 + (-1 : Int32)) H locs ls hf hP hD hS (lv_sub hl [1, 2, 0] rfl)
  obtain ⟨H, hH⟩ : ∃ H, H = s.heap := ⟨_, rfl⟩
  obtain ⟨locs, hlo⟩ : ∃ L : List Loc, L = [] := ⟨_, rfl⟩
  rw [← hH] at hP
  have hS : va_S A s.heap H locs := by rw [hH, hlo]; exact hS
  rw [show W p l e (headSpec (kws yX4_following cX4_following 7 (some .int)) rm_X4_following).room s m args below meth c s.heap [] 0 0 Q (F0 m 0 ls []) = W p l e (headSpec (kws yX4_following cX4_following 7 (some .int)) rm_X4_following).room s m args below meth c H locs 0 0 Q (F0 m 0 ls []) from by rw [hH, hlo]]
  refine lv_iload_n hx hb dX4_following_0 rfl (lv_at hl 1 rfl) ?_
  refine lv_iconst (v := (2 : Int32)) hx hb dX4_following_1 (by decide) ?_
  refine lv_isub hx hb dX4_following_2 ?_
  refine lv_istore_n (lv' := [(2, .int (x1 - (2 : Int32))), (0, .int x0), (1, .int x1)]) hx hb dX4_following_3 rfl hl (by decide) rfl (fun ls hl => ?_)
  exact L4 NF x0 x1 (x1 - (2 : Int32)) H locs ls hf hP hD hS (lv_sub hl [1, 2, 0] rfl)
def f_X4_rank_b43 (K4 : Int32 → Int32 → Int32 → Int32 → Option (Int32)) (K20 : Int32 → Int32 → Int32 → Int32 → Int32 → Option (Int32)) (x0 : Int32) (x1 : Int32) (x2 : Int32) (x3 : Int32) (x4 : Int32) : Option (Int32) := K20 x0 x1 x2 x3 (x4 + (1 : Int32))
def f_X4_rank_l20 (K4 : Int32 → Int32 → Int32 → Int32 → Option (Int32)) : Nat → Int32 → Int32 → Int32 → Int32 → Int32 → Option (Int32)
  | 0, _, _, _, _, _ => none
  | n + 1, x0, x1, x2, x3, x4 => if x1 ≤ x4 then K4 x0 x1 x2 (x3 + (1 : Int32)) else Option.bind (f_X4_who x0 x4) (fun u_2 => Option.bind (f_X4_who x0 x3) (fun u_4 => if u_4 ≤ u_2 then f_X4_rank_b43 K4 (f_X4_rank_l20 K4 n) x0 x1 x2 x3 x4 else f_X4_rank_b43 K4 (f_X4_rank_l20 K4 n) x0 x1 (x2 + (1 : Int32)) x3 x4))
def f_X4_rank_l4 : Nat → Int32 → Int32 → Int32 → Int32 → Option (Int32)
  | 0, _, _, _, _ => none
  | n + 1, x0, x1, x2, x3 => if x1 ≤ x3 then some x2 else f_X4_rank_l20 (f_X4_rank_l4 n) NF x0 x1 (x2 * (x1 - x3)) x3 (x3 + (1 : Int32))
def f_X4_rank (x0 : Int32) (x1 : Int32) : Option (Int32) := f_X4_rank_l4 NF x0 x1 (0 : Int32) (0 : Int32)
abbrev rm_X4_rank : Room := { frames := 1, cells := 0, slots := 0, locals := 21 }
theorem kd_X4_rank : yX4_rank.cls ≠ "java/lang/invoke/MethodHandle" ∧ yX4_rank.cls ≠ "java/lang/invoke/VarHandle" ∧ (parseMethodDescriptor yX4_rank.desc).map (fun d => d.parameters.length) = some 2 := by decide +kernel
set_option maxHeartbeats 4000000 in
set_option maxRecDepth 100000 in
theorem c_X4_rank (l : Launch) (dC : Nat → ClassId) (dI : Nat → Nat → Nat) (cI cJ cZ : ClassId) (sz : Nat) (x0 : Int32) (x1 : Int32) (res : Int32) (hf : f_X4_rank x0 x1 = some res) : kMi Unit l yX4_rank cX4_rank 5 (some .int) rm_X4_rank [.int x0, .int x1] (dC, dI) (kT cI cJ cZ) sz [] res (fun _ => []) := by
  refine Met.ofW (cc := cX4_rank) (maxL := 5) (ret := (some .int)) (by decide) rfl ?_
  intro p e s m args below meth c s₁ B hml hv
  obtain ⟨rfl, hsz, hP, hK, hD0⟩ := hv
  have hx := B.exec
  have hb := B.bytes
  have hr := B.returns
  have ht : ∀ w ∈ lw_g, w.before ([.int x0, .int x1] : List Value).toArray s = true := fun w h => atoms_spec (ws := kws yX4_rank cX4_rank 5 (some .int)) B.pre w (List.mem_cons_of_mem _ h)
  have hown : s.vm.findClass RX4 = some m.cls := findClass_of_methodNamed B.named
  have hlocks := B.notSynchronized
  subst hsz
  have hD := hD0.self (sz := s.heap.size)
  generalize hAe : va_A [] s.heap.size = A at hD ⊢
  have hA : ∀ q : Nat, s.heap.size ≤ q → A q := fun q h => by rw [← hAe]; exact Or.inr h
  have hS : va_S A s.heap s.heap [] := va_S.rf
  have hret : ∀ (H : Heap) (locs : List Loc) (ls : Array Slot) (pc : Nat) (v : Int32), some v = some res → decode cX4_rank pc = .ok (.ireturn, 1) → va_P (dC, dI) vwCl [] H → va_D A [] → va_S A s.heap H locs → W p l e (headSpec (kws yX4_rank cX4_rank 5 (some .int)) rm_X4_rank).room s m ([.int x0, .int x1] : List Value).toArray below meth c H locs 0 0 (MQ below (kQi Unit (dC, dI) A res (fun _ => [])) ([.int x0, .int x1] : List Value).toArray s 0 0 A) (F0 m pc ls [.int v]) := by
    intro H locs ls pc v he hd hP hD hS
    obtain rfl := Option.some.inj he
    exact kri hx hb hr hlocks () hP hD hS hd
  have hl := lv_entry ([.int x0, .int x1]) (n := 5) (Nat.le_of_ble_eq_true rfl)
  rw [lg_entry_eq]
  generalize (lg_sl ([.int x0, .int x1]) ++ List.replicate (5 - (lg_sl ([.int x0, .int x1])).length) Slot.unset).toArray = ls at hl ⊢
  have hl : lv_has ls 5 [(0, .int x0), (1, .int x1)] := hl
  generalize (MQ below _ ([.int x0, .int x1] : List Value).toArray s 0 0 A) = Q at hret ⊢
  generalize ([.int x0, .int x1] : List Value).toArray = args at ht hret ⊢
  have hP : va_P (dC, dI) vwCl [] s.heap := hP
  unfold f_X4_rank at hf
  have L4 : ∀ (n : Nat) (x0 : Int32) (x1 : Int32) (x2 : Int32) (x3 : Int32) (H : Heap) (locs : List Loc) (ls : Array Slot), f_X4_rank_l4 n x0 x1 x2 x3 = some res → va_P (dC, dI) vwCl [] H → va_D A [] → va_S A s.heap H locs → lv_has ls 5 [(0, .int x0), (1, .int x1), (2, .int x2), (3, .int x3)] → W p l e (headSpec (kws yX4_rank cX4_rank 5 (some .int)) rm_X4_rank).room s m args below meth c H locs 0 0 Q (F0 m 4 ls []) := by
    intro n
    induction n with
    | zero =>
      intro x0 x1 x2 x3 H locs ls hf hP hD hS hl
      rw [f_X4_rank_l4.eq_1] at hf
      cases hf
    | succ n4 ih4 =>
      have L20 : ∀ (n : Nat) (x0 : Int32) (x1 : Int32) (x2 : Int32) (x3 : Int32) (x4 : Int32) (H : Heap) (locs : List Loc) (ls : Array Slot), f_X4_rank_l20 (f_X4_rank_l4 n4) n x0 x1 x2 x3 x4 = some res → va_P (dC, dI) vwCl [] H → va_D A [] → va_S A s.heap H locs → lv_has ls 5 [(0, .int x0), (1, .int x1), (2, .int x2), (3, .int x3), (4, .int x4)] → W p l e (headSpec (kws yX4_rank cX4_rank 5 (some .int)) rm_X4_rank).room s m args below meth c H locs 0 0 Q (F0 m 20 ls []) := by
        intro n
        induction n with
        | zero =>
          intro x0 x1 x2 x3 x4 H locs ls hf hP hD hS hl
          rw [f_X4_rank_l20.eq_1] at hf
          cases hf
        | succ n20 ih20 =>
          have B43 : ∀ (x0 : Int32) (x1 : Int32) (x2 : Int32) (x3 : Int32) (x4 : Int32) (H : Heap) (locs : List Loc) (ls : Array Slot), f_X4_rank_b43 (f_X4_rank_l4 n4) (f_X4_rank_l20 (f_X4_rank_l4 n4) n20) x0 x1 x2 x3 x4 = some res → va_P (dC, dI) vwCl [] H → va_D A [] → va_S A s.heap H locs → lv_has ls 5 [(0, .int x0), (1, .int x1), (2, .int x2), (3, .int x3), (4, .int x4)] → W p l e (headSpec (kws yX4_rank cX4_rank 5 (some .int)) rm_X4_rank).room s m args below meth c H locs 0 0 Q (F0 m 43 ls []) := by
            intro x0 x1 x2 x3 x4 H locs ls hf hP hD hS hl
            unfold f_X4_rank_b43 at hf
            refine lv_iinc (v := (x4 + (1 : Int32))) (lv' := [(4, .int (x4 + (1 : Int32))), (0, .int x0), (1, .int x1), (2, .int x2), (3, .int x3)]) hx hb dX4_rank_43 hl (k := 4) rfl rfl (by decide) rfl (fun ls hl => ?_)
            refine lv_goto (tgt := 20) hx hb dX4_rank_46 (by decide) ?_
            exact ih20 x0 x1 x2 x3 (x4 + (1 : Int32)) H locs ls hf hP hD hS (lv_sub hl [1, 2, 3, 4, 0] rfl)
          intro x0 x1 x2 x3 x4 H locs ls hf hP hD hS hl
          rw [f_X4_rank_l20.eq_2] at hf
          refine lv_iload hx hb dX4_rank_20 (lv_at hl 4 rfl) ?_
          refine lv_iload_n hx hb dX4_rank_22 rfl (lv_at hl 1 rfl) ?_
          refine lv_icmp_ge (tgt := 49) hx hb dX4_rank_23 (by decide) (fun c_1 => ?_) (fun c_1 => ?_)
          · have hf := ifp c_1 hf
            refine lv_iinc (v := (x3 + (1 : Int32))) (lv' := [(3, .int (x3 + (1 : Int32))), (0, .int x0), (1, .int x1), (2, .int x2), (4, .int x4)]) hx hb dX4_rank_49 hl (k := 3) rfl rfl (by decide) rfl (fun ls hl => ?_)
            refine lv_goto (tgt := 4) hx hb dX4_rank_52 (by decide) ?_
            exact ih4 x0 x1 x2 (x3 + (1 : Int32)) H locs ls hf hP hD hS (lv_sub hl [1, 2, 3, 0] rfl)
          · have hf := ifn c_1 hf
            refine lv_iload_n hx hb dX4_rank_26 rfl (lv_at hl 0 rfl) ?_
            refine lv_iload hx hb dX4_rank_27 (lv_at hl 4 rfl) ?_
            obtain ⟨u_2, h_3, hf⟩ := obs hf
            refine kcSi (rest := []) (wr := []) (w2 := fun _ => []) hx hb hml hown ht (c_X4_who l dC dI cI cJ cZ H.size x0 x4 u_2 h_3) (kcw 2 ht wd_2_93 wd_1_12 wd_2_91 kd_X4_who ⟨rfl, rfl⟩ ⟨Nat.le_of_ble_eq_true rfl, Nat.le_of_ble_eq_true rfl⟩) wd_2_92 hK hP hD hS hA [] [] [] rfl rfl rfl rfl (by decide) rfl (fun _ => rfl) rfl hl.1 rfl (Nat.le_of_ble_eq_true rfl) dX4_rank_29 ⟨Nat.zero_le _, Nat.zero_le _⟩ (fun _ H locs hP hD hS => ?_)
            have hP : va_P (dC, dI) vwCl [] H := hP
            have hD : va_D A [] := hD
            refine lv_iload_n hx hb dX4_rank_32 rfl (lv_at hl 0 rfl) ?_
            refine lv_iload_n hx hb dX4_rank_33 rfl (lv_at hl 3 rfl) ?_
            obtain ⟨u_4, h_5, hf⟩ := obs hf
            refine kcSi (rest := [.int u_2]) (wr := []) (w2 := fun _ => []) hx hb hml hown ht (c_X4_who l dC dI cI cJ cZ H.size x0 x3 u_4 h_5) (kcw 2 ht wd_2_93 wd_1_12 wd_2_91 kd_X4_who ⟨rfl, rfl⟩ ⟨Nat.le_of_ble_eq_true rfl, Nat.le_of_ble_eq_true rfl⟩) wd_2_92 hK hP hD hS hA [] [] [] rfl rfl rfl rfl (by decide) rfl (fun _ => rfl) rfl hl.1 rfl (Nat.le_of_ble_eq_true rfl) dX4_rank_34 ⟨Nat.zero_le _, Nat.zero_le _⟩ (fun _ H locs hP hD hS => ?_)
            have hP : va_P (dC, dI) vwCl [] H := hP
            have hD : va_D A [] := hD
            refine lv_icmp_ge (tgt := 43) hx hb dX4_rank_37 (by decide) (fun c_6 => ?_) (fun c_6 => ?_)
            · have hf := ifp c_6 hf
              exact B43 x0 x1 x2 x3 x4 H locs ls hf hP hD hS (lv_sub hl [0, 1, 2, 3, 4] rfl)
            · have hf := ifn c_6 hf
              refine lv_iinc (v := (x2 + (1 : Int32))) (lv' := [(2, .int (x2 + (1 : Int32))), (0, .int x0), (1, .int x1), (3, .int x3), (4, .int x4)]) hx hb dX4_rank_40 hl (k := 2) rfl rfl (by decide) rfl (fun ls hl => ?_)
              exact B43 x0 x1 (x2 + (1 : Int32)) x3 x4 H locs ls hf hP hD hS (lv_sub hl [1, 2, 0, 3, 4] rfl)
      intro x0 x1 x2 x3 H locs ls hf hP hD hS hl
      rw [f_X4_rank_l4.eq_2] at hf
      refine lv_iload_n hx hb dX4_rank_4 rfl (lv_at hl 3 rfl) ?_
      refine lv_iload_n hx hb dX4_rank_5 rfl (lv_at hl 1 rfl) ?_
      refine lv_icmp_ge (tgt := 55) hx hb dX4_rank_6 (by decide) (fun c_7 => ?_) (fun c_7 => ?_)
      · have hf := ifp c_7 hf
        refine lv_iload_n hx hb dX4_rank_55 rfl (lv_at hl 2 rfl) ?_
        exact hret H locs ls 56 x2 hf dX4_rank_56 hP hD hS
      · have hf := ifn c_7 hf
        refine lv_iload_n hx hb dX4_rank_9 rfl (lv_at hl 2 rfl) ?_
        refine lv_iload_n hx hb dX4_rank_10 rfl (lv_at hl 1 rfl) ?_
        refine lv_iload_n hx hb dX4_rank_11 rfl (lv_at hl 3 rfl) ?_
        refine lv_isub hx hb dX4_rank_12 ?_
        refine lv_imul hx hb dX4_rank_13 ?_
        refine lv_istore_n (lv' := [(2, .int (x2 * (x1 - x3))), (0, .int x0), (1, .int x1), (3, .int x3)]) hx hb dX4_rank_14 rfl hl (by decide) rfl (fun ls hl => ?_)
        refine lv_iload_n hx hb dX4_rank_15 rfl (lv_at hl 3 rfl) ?_
        refine lv_iconst (v := (1 : Int32)) hx hb dX4_rank_16 (by decide) ?_
        refine lv_iadd hx hb dX4_rank_17 ?_
        refine lv_istore (lv' := [(4, .int (x3 + (1 : Int32))), (2, .int (x2 * (x1 - x3))), (0, .int x0), (1, .int x1), (3, .int x3)]) hx hb dX4_rank_18 hl (by decide) rfl (fun ls hl => ?_)
        exact L20 NF x0 x1 (x2 * (x1 - x3)) x3 (x3 + (1 : Int32)) H locs ls hf hP hD hS (lv_sub hl [2, 3, 1, 4, 0] rfl)
  obtain ⟨H, hH⟩ : ∃ H, H = s.heap := ⟨_, rfl⟩
  obtain ⟨locs, hlo⟩ : ∃ L : List Loc, L = [] := ⟨_, rfl⟩
  rw [← hH] at hP
  have hS : va_S A s.heap H locs := by rw [hH, hlo]; exact hS
  rw [show W p l e (headSpec (kws yX4_rank cX4_rank 5 (some .int)) rm_X4_rank).room s m args below meth c s.heap [] 0 0 Q (F0 m 0 ls []) = W p l e (headSpec (kws yX4_rank cX4_rank 5 (some .int)) rm_X4_rank).room s m args below meth c H locs 0 0 Q (F0 m 0 ls []) from by rw [hH, hlo]]
  refine lv_iconst (v := (0 : Int32)) hx hb dX4_rank_0 (by decide) ?_
  refine lv_istore_n (lv' := [(2, .int (0 : Int32)), (0, .int x0), (1, .int x1)]) hx hb dX4_rank_1 rfl hl (by decide) rfl (fun ls hl => ?_)
  refine lv_iconst (v := (0 : Int32)) hx hb dX4_rank_2 (by decide) ?_
  refine lv_istore_n (lv' := [(3, .int (0 : Int32)), (2, .int (0 : Int32)), (0, .int x0), (1, .int x1)]) hx hb dX4_rank_3 rfl hl (by decide) rfl (fun ls hl => ?_)
  exact L4 NF x0 x1 (0 : Int32) (0 : Int32) H locs ls hf hP hD hS (lv_sub hl [2, 3, 1, 0] rfl)
