/-! ===== how brackets are paired: the spec, by the roles R of the places ===== -/
/-- the waiting places from the latest one of role r on -/
def dropW (R : Nat → Int) (r : Int) : List Nat → List Nat
  | [] => []
  | q :: L => if R q = r then q :: L else dropW R r L
/-- the places that wait ahead of place n, the latest one first -/
def wt (R : Nat → Int) : Nat → List Nat
  | 0 => []
  | n + 1 => if R n = -1 then wt R n else if R n % 2 = 0 then n :: wt R n else if dropW R (R n - 1) (wt R n) = [] then wt R n else (dropW R (R n - 1) (wt R n)).tail
/-- the place that the closing bracket at n is paired with, or -1 -/
def mt (R : Nat → Int) (n : Nat) : Int := if R n = -1 ∨ R n % 2 = 0 then -1 else match dropW R (R n - 1) (wt R n) with
  | [] => -1
  | q :: _ => q
/-- the partner of p behind n places, or -1 -/
def pt (R : Nat → Int) : Nat → Nat → Int
  | 0, _ => -1
  | n + 1, p => if mt R n = -1 then pt R n p else if (p : Int) = mt R n then n else if p = n then mt R n else pt R n p
theorem dropW_sub (R : Nat → Int) (r : Int) : ∀ (L : List Nat) (q : Nat), q ∈ dropW R r L → q ∈ L := by
  intro L
  induction L with
  | nil => intro q h; exact h
  | cons a L ih =>
    intro q h
    rw [dropW] at h
    split at h
    · exact h
    · exact List.mem_cons_of_mem _ (ih q h)
theorem wt_lt (R : Nat → Int) : ∀ (n q : Nat), q ∈ wt R n → q < n := by
  intro n
  induction n with
  | zero => intro q h; simp [wt] at h
  | succ n ih =>
    intro q h
    rw [wt] at h
    split at h
    · have := ih q h; omega
    · split at h
      · rcases List.mem_cons.mp h with h | h
        · omega
        · have := ih q h; omega
      · split at h
        · have := ih q h; omega
        · have := ih q (dropW_sub R _ _ q (List.mem_of_mem_tail h)); omega
theorem mt_lt (R : Nat → Int) (n : Nat) : -1 ≤ mt R n ∧ mt R n < n := by
  unfold mt
  split
  · omega
  · split
    · omega
    · rename_i q L h
      have := wt_lt R n q (dropW_sub R _ _ q (by rw [h]; exact List.mem_cons_self))
      omega
theorem pt_out (R : Nat → Int) : ∀ (n p : Nat), n ≤ p → pt R n p = -1 := by
  intro n
  induction n with
  | zero => intro p _; rfl
  | succ n ih =>
    intro p h
    rw [pt]
    have := mt_lt R n
    split
    · exact ih p (by omega)
    · rw [if_neg (by omega), if_neg (by omega)]; exact ih p (by omega)
theorem wt_len (R : Nat → Int) : ∀ n : Nat, (wt R n).length ≤ n := by
  have dl : ∀ (r : Int) (L : List Nat), (dropW R r L).length ≤ L.length := by
    intro r L
    induction L with
    | nil => exact Nat.le_refl _
    | cons a L ih =>
      rw [dropW]
      split
      · exact Nat.le_refl _
      · simp only [List.length_cons]; omega
  intro n
  induction n with
  | zero => exact Nat.le_refl _
  | succ n ih =>
    rw [wt]
    have := dl (R n - 1) (wt R n)
    repeat' split
    · omega
    · simp only [List.length_cons]; omega
    · omega
    · rw [List.length_tail]; omega
