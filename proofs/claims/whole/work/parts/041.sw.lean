theorem sw_n {x y : Int32} (h : ¬ x = y) : ¬ x.toInt = y.toInt := fun e => h (Int32.toInt_inj.mp e)
theorem sw_out3 {x : Int32} (h0 : ¬ x = (0 : Int32)) (h1 : ¬ x = (1 : Int32)) (h2 : ¬ x = (2 : Int32)) (h3 : ¬ x = (3 : Int32)) : x.toInt < 0 ∨ 3 < x.toInt := by
  have g0 : ¬ x.toInt = 0 := sw_n h0
  have g1 : ¬ x.toInt = 1 := sw_n h1
  have g2 : ¬ x.toInt = 2 := sw_n h2
  have g3 : ¬ x.toInt = 3 := sw_n h3
  omega
theorem sw_out7 {x : Int32} (h0 : ¬ x = (0 : Int32)) (h1 : ¬ x = (1 : Int32)) (h2 : ¬ x = (2 : Int32)) (h3 : ¬ x = (3 : Int32)) (h4 : ¬ x = (4 : Int32)) (h5 : ¬ x = (5 : Int32)) (h6 : ¬ x = (6 : Int32)) (h7 : ¬ x = (7 : Int32)) : x.toInt < 0 ∨ 7 < x.toInt := by
  have g0 : ¬ x.toInt = 0 := sw_n h0
  have g1 : ¬ x.toInt = 1 := sw_n h1
  have g2 : ¬ x.toInt = 2 := sw_n h2
  have g3 : ¬ x.toInt = 3 := sw_n h3
  have g4 : ¬ x.toInt = 4 := sw_n h4
  have g5 : ¬ x.toInt = 5 := sw_n h5
  have g6 : ¬ x.toInt = 6 := sw_n h6
  have g7 : ¬ x.toInt = 7 := sw_n h7
  omega
theorem lk_out3 {x : Int32} (h0 : ¬ x = (108 : Int32)) (h1 : ¬ x = (112 : Int32)) (h2 : ¬ x = (114 : Int32)) : Op.lookupswitch.offset (#[((108 : Int), (160 : Int)), (112, 36), (114, 297)] : Array (Int × Int)).toList 331 x.toInt = 331 := by
  have g0 : ¬ x.toInt = 108 := sw_n h0
  have g1 : ¬ x.toInt = 112 := sw_n h1
  have g2 : ¬ x.toInt = 114 := sw_n h2
  simp [Op.lookupswitch.offset, Ne.symm g0, Ne.symm g1, Ne.symm g2]
