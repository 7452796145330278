theorem lkup_no {x : Int32} {o1 o2 d : Int} (h1 : ¬ x = 1) (h2 : ¬ x = 2) : Op.lookupswitch.offset [(1, o1), (2, o2)] d x.toInt = d := by
  have e1 : ¬ (1 : Int) = x.toInt := fun h => h1 (Int32.toInt_inj.mp (by rw [← h]; rfl))
  have e2 : ¬ (2 : Int) = x.toInt := fun h => h2 (Int32.toInt_inj.mp (by rw [← h]; rfl))
  simp [Op.lookupswitch.offset, e1, e2]
