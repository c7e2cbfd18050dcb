/-! ===== which object lies behind which ===== -/
theorem kid4 : (List.range NO).all (fun k => (ot k).1 != 4 || (decide (k + 1 < NO) && ot (k + 1) == (20, 240) && decide (k + 2 < NO) && ot (k + 2) == (20, 8))) = true := by decide +kernel
theorem kid7 : (List.range NO).all (fun k => (ot k).1 != 7 || (decide (k + 1 < NO) && ot (k + 1) == (20, 127) && decide (k + 2 < NO) && ot (k + 2) == (20, 8))) = true := by decide +kernel
theorem kid5 : (List.range NO).all (fun k => (ot k).1 != 5 || (decide (k + 1 < NO) && ot (k + 1) == (20, 240) && decide (k + 2 < NO) && ot (k + 2) == (20, 240) && decide (k + 3 < NO) && ot (k + 3) == (20, 240) && decide (k + 4 < NO) && ot (k + 4) == (20, 240) && decide (k + 5 < NO) && ot (k + 5) == (20, 240))) = true := by decide +kernel
theorem kid_of {p : Nat → Bool} {c : Nat} (h : (List.range NO).all (fun k => (ot k).1 != c || p k) = true) {k : Nat} (hk : isO c k) : p k = true := by
  have := List.all_eq_true.mp h k (List.mem_range.mpr hk.1)
  simpa [hk.2] using this
theorem k4_1 {k : Nat} (h : isO 4 k) : isA 20 240 (k + 1) := by have := kid_of kid4 h; simp only [Bool.and_eq_true, decide_eq_true_eq, beq_iff_eq] at this; exact ⟨this.1.1.1, this.1.1.2⟩
theorem k4_2 {k : Nat} (h : isO 4 k) : isA 20 8 (k + 2) := by have := kid_of kid4 h; simp only [Bool.and_eq_true, decide_eq_true_eq, beq_iff_eq] at this; exact ⟨this.1.2, this.2⟩
theorem k7_1 {k : Nat} (h : isO 7 k) : isA 20 127 (k + 1) := by have := kid_of kid7 h; simp only [Bool.and_eq_true, decide_eq_true_eq, beq_iff_eq] at this; exact ⟨this.1.1.1, this.1.1.2⟩
theorem k7_2 {k : Nat} (h : isO 7 k) : isA 20 8 (k + 2) := by have := kid_of kid7 h; simp only [Bool.and_eq_true, decide_eq_true_eq, beq_iff_eq] at this; exact ⟨this.1.2, this.2⟩
theorem k5_1 {k : Nat} (h : isO 5 k) : isA 20 240 (k + 1) := by have := kid_of kid5 h; simp only [Bool.and_eq_true, decide_eq_true_eq, beq_iff_eq] at this; exact ⟨this.1.1.1.1.1.1.1.1.1, this.1.1.1.1.1.1.1.1.2⟩
theorem k5_2 {k : Nat} (h : isO 5 k) : isA 20 240 (k + 2) := by have := kid_of kid5 h; simp only [Bool.and_eq_true, decide_eq_true_eq, beq_iff_eq] at this; exact ⟨this.1.1.1.1.1.1.1.2, this.1.1.1.1.1.1.2⟩
theorem k5_3 {k : Nat} (h : isO 5 k) : isA 20 240 (k + 3) := by have := kid_of kid5 h; simp only [Bool.and_eq_true, decide_eq_true_eq, beq_iff_eq] at this; exact ⟨this.1.1.1.1.1.2, this.1.1.1.1.2⟩
theorem k5_4 {k : Nat} (h : isO 5 k) : isA 20 240 (k + 4) := by have := kid_of kid5 h; simp only [Bool.and_eq_true, decide_eq_true_eq, beq_iff_eq] at this; exact ⟨this.1.1.1.2, this.1.1.2⟩
theorem k5_5 {k : Nat} (h : isO 5 k) : isA 20 240 (k + 5) := by have := kid_of kid5 h; simp only [Bool.and_eq_true, decide_eq_true_eq, beq_iff_eq] at this; exact ⟨this.1.2, this.2⟩
