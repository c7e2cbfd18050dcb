/-! ===== the abstract memory: whole numbers by object and place; the object graph is fixed ===== -/
abbrev AV : Type := Int ⊕ (Nat ⊕ Value)
abbrev aI (i : Int) : AV := .inl i
abbrev aR (k : Nat) : AV := .inr (.inl k)
abbrev aV (v : Value) : AV := .inr (.inr v)
abbrev Mem : Type := Nat → Int → Int
def inR (i : Int) : Prop := -2147483648 ≤ i ∧ i ≤ 2147483647
def w32 (i : Int) : Int := i.bmod 4294967296
theorem w32_of {i : Int} (h1 : -2147483648 ≤ i) (h2 : i ≤ 2147483647) : w32 i = i := by
  unfold w32; rw [Int.bmod_def]; omega
theorem w32_in (i : Int) : inR (w32 i) := by
  unfold inR w32; rw [Int.bmod_def]; omega
theorem toInt_in (x : Int32) : inR x.toInt := by
  have h1 := x.minValue_le_toInt
  have h2 := x.toInt_le
  simp only [Int32.toInt_minValue, Int32.toInt_maxValue] at h1 h2
  exact ⟨h1, h2⟩
theorem ofInt_toInt {i : Int} (h : inR i) : (Int32.ofInt i).toInt = i := by
  have := w32_of h.1 h.2
  rw [Int32.toInt_ofInt]; exact this
theorem toInt_add (x y : Int32) : (x + y).toInt = w32 (x.toInt + y.toInt) := Int32.toInt_add x y
theorem toInt_sub (x y : Int32) : (x - y).toInt = w32 (x.toInt - y.toInt) := Int32.toInt_sub x y
theorem toInt_mul (x y : Int32) : (x * y).toInt = w32 (x.toInt * y.toInt) := Int32.toInt_mul x y
theorem toInt_neg (x : Int32) : (-x).toInt = w32 (-x.toInt) := Int32.toInt_neg x
theorem toInt_ofInt (i : Int) : (Int32.ofInt i).toInt = w32 i := Int32.toInt_ofInt ..
def up (M : Mem) (k : Nat) (i v : Int) : Mem := fun k' i' => if k' = k ∧ i' = i then v else M k' i'
/-- a stretch of an array copied onto a stretch of one -/
def upc (M : Mem) (a : Nat) (sp : Int) (b : Nat) (dp n : Int) : Mem := fun k i => if k = b ∧ dp ≤ i ∧ i < dp + n then M a (sp + (i - dp)) else M k i
/-- what each object is: below 11 an object of that class; 20 int, 21 boolean, 22 byte, 23 Page, 24 long array, and how long -/
def otT : List (Nat × Nat) := [(9, 0), (1, 0), (20, 600), (8, 0), (6, 0), (7, 0), (20, 127), (20, 8), (3, 0), (20, 100), (20, 300), (7, 0), (20, 127), (20, 8), (4, 0), (20, 240), (20, 8), (4, 0), (20, 240), (20, 8), (0, 0), (23, 10), (4, 0), (20, 240), (20, 8), (4, 0), (20, 240), (20, 8), (4, 0), (20, 240), (20, 8), (4, 0), (20, 240), (20, 8), (4, 0), (20, 240), (20, 8), (4, 0), (20, 240), (20, 8), (4, 0), (20, 240), (20, 8), (4, 0), (20, 240), (20, 8), (4, 0), (20, 240), (20, 8), (4, 0), (20, 240), (20, 8), (23, 2), (21, 2), (5, 0), (20, 240), (20, 240), (20, 240), (20, 240), (20, 240), (5, 0), (20, 240), (20, 240), (20, 240), (20, 240), (20, 240), (2, 0), (20, 240), (20, 240), (21, 240), (20, 29161), (20, 29161), (20, 242), (20, 240), (20, 240), (20, 240), (20, 240), (20, 240), (4, 0), (20, 240), (20, 8), (4, 0), (20, 240), (20, 8), (10, 0), (20, 4), (20, 4), (20, 4), (20, 4), (20, 254), (20, 254), (22, 600), (20, 240), (20, 240), (20, 240), (21, 240), (20, 240), (20, 240), (20, 58081), (20, 58081), (20, 240), (20, 240), (20, 500), (20, 500), (20, 240), (20, 200), (20, 200), (20, 200), (20, 200), (20, 254), (20, 2540), (20, 508), (21, 2), (24, 1)]
def ot (k : Nat) : Nat × Nat := otT.getD k (99, 0)
def NO : Nat := 114
/-- the fields of each class: 0 int, 1 boolean, 2 reference, so many behind the object itself, 3 reference to that object -/
def ftT : List (List (Nat × Nat)) := [[(3, 21), (0, 0), (0, 0)], [(3, 2), (0, 0)], [(3, 67), (3, 68), (3, 69), (3, 70), (3, 71), (3, 72), (3, 73), (3, 74), (3, 75), (3, 76), (0, 0), (0, 0), (0, 0), (0, 0), (0, 0), (0, 0)], [(3, 9), (3, 10), (0, 0)], [(2, 1), (2, 2), (0, 0), (0, 0), (0, 0), (0, 0), (0, 0), (0, 0)], [(2, 1), (2, 2), (2, 3), (2, 4), (2, 5), (0, 0), (0, 0), (0, 0), (0, 0), (0, 0), (0, 0), (1, 0)], [(3, 5), (0, 0), (0, 0), (0, 0), (0, 0), (1, 0), (1, 0)], [(2, 1), (2, 2), (0, 0)], [(3, 1), (0, 0), (0, 0), (0, 0), (0, 0)], [(3, 1), (3, 3), (3, 4), (3, 8), (3, 11), (3, 14), (3, 17), (3, 20), (3, 52), (3, 53), (3, 54), (3, 60), (3, 66), (3, 77), (0, 0), (0, 0), (1, 0), (1, 0)], [(0, 0), (0, 0), (3, 85), (3, 86), (0, 0), (0, 0), (0, 0), (0, 0), (3, 87), (3, 88), (0, 0), (0, 0), (0, 0), (3, 89), (3, 90), (3, 91), (0, 0), (0, 0), (0, 0), (0, 0), (0, 0), (0, 0), (0, 0), (0, 0), (0, 0), (3, 92), (0, 0), (3, 93), (3, 94), (3, 95), (3, 96), (3, 97), (3, 98), (3, 99), (3, 100), (3, 101), (3, 102), (3, 103), (3, 104), (0, 0), (0, 0), (3, 105), (3, 106), (3, 107), (3, 108), (3, 109), (0, 0), (3, 110), (3, 111), (3, 112)]]
def ft (ci i : Nat) : Nat × Nat := (ftT.getD ci []).getD i (9, 0)
def nf (ci : Nat) : Nat := (ftT.getD ci []).length
def rf (k ci i : Nat) : Nat := if (ft ci i).1 = 2 then k + (ft ci i).2 else (ft ci i).2
/-- the elements of the arrays of pages -/
def rfa (k j : Nat) : Nat := if k = 21 then 22 + 3 * j else 78 + 3 * j
def fv (base : Nat) (M : Mem) (k ci i : Nat) : Value := if (ft ci i).1 ≤ 1 then .int (Int32.ofInt (M k i)) else .ref (base + rf k ci i)
def flds (base : Nat) (M : Mem) (k ci : Nat) : List Value := (List.range (nf ci)).map (fv base M k ci)
def cel (ca : Nat → ClassId) (base : Nat) (M : Mem) (k : Nat) : va_E :=
  if (ot k).1 < 11 then .inr ((ot k).1, flds base M k (ot k).1)
  else if (ot k).1 = 24 then .inl (ca 4, (ot k).2, .inr (.inl (fun j => (Int32.ofInt (M k (j : Nat))).toInt64)))
  else if (ot k).1 = 23 then .inl (ca 3, (ot k).2, .inr (.inr (.inr (.inr (fun j => some (base + rfa k j))))))
  else .inl (ca ((ot k).1 - 20), (ot k).2, .inl (fun j => Int32.ofInt (M k (j : Nat))))
def wrl (ca : Nat → ClassId) (base : Nat) (M : Mem) : va_W := (List.range NO).map (fun k => (base + k, cel ca base M k))
theorem wrl_at (ca : Nat → ClassId) (base : Nat) (M : Mem) {k : Nat} (h : k < NO) : (wrl ca base M)[k]? = some (base + k, cel ca base M k) := by
  unfold wrl
  rw [List.getElem?_map, List.getElem?_range h]
  rfl
theorem map_range_set {α : Type} (f g : Nat → α) (n k : Nat) (v : α) (h1 : k < n → g k = v) (h2 : ∀ j, j ≠ k → g j = f j) : ((List.range n).map f).set k v = (List.range n).map g := by
  apply List.ext_getElem?
  intro j
  by_cases hjn : j < n
  · by_cases hjk : j = k
    · subst hjk
      rw [List.getElem?_set_self (by simpa using hjn), List.getElem?_map, List.getElem?_range hjn, Option.map_some, h1 hjn]
    · rw [List.getElem?_set_ne (Ne.symm hjk), List.getElem?_map, List.getElem?_map, List.getElem?_range hjn, Option.map_some, Option.map_some, h2 j hjk]
  · rw [List.getElem?_eq_none (by simp; omega), List.getElem?_eq_none (by simp; omega)]
theorem wrl_set (ca : Nat → ClassId) (base : Nat) (M M' : Mem) (k : Nat) (e : va_E) (h1 : cel ca base M' k = e) (h2 : ∀ j, j ≠ k → cel ca base M' j = cel ca base M j) : (wrl ca base M).set k (base + k, e) = wrl ca base M' := by
  unfold wrl
  exact map_range_set _ _ _ _ _ (fun _ => by rw [h1]) (fun j hj => by rw [h2 j hj])
theorem wrl_same (ca : Nat → ClassId) (base : Nat) (M M' : Mem) (h : ∀ k, cel ca base M' k = cel ca base M k) : wrl ca base M' = wrl ca base M := by
  unfold wrl
  exact List.map_congr_left (fun k _ => by rw [h k])
theorem cel_congr (ca : Nat → ClassId) (base : Nat) {M M' : Mem} {k : Nat} (h : ∀ i, M' k i = M k i) : cel ca base M' k = cel ca base M k := by
  unfold cel flds fv
  simp only [h]
abbrev Gl : Type := va_G × (Nat → ClassId) × Nat × (Nat → Nat) × Nat × (Nat → Int32)
/-- classes of exceptions: none of them is another -/
def ncT : List (String × String) := [("java/lang/IndexOutOfBoundsException", "java/lang/IllegalArgumentException"), ("java/util/NoSuchElementException", "java/lang/IllegalArgumentException"), ("java/lang/IllegalStateException", "java/lang/IllegalArgumentException"), ("java/lang/IllegalArgumentException", "java/lang/IndexOutOfBoundsException"), ("java/util/NoSuchElementException", "java/lang/IndexOutOfBoundsException"), ("java/lang/IllegalStateException", "java/lang/IndexOutOfBoundsException"), ("java/lang/IllegalArgumentException", "java/util/NoSuchElementException"), ("java/lang/IndexOutOfBoundsException", "java/util/NoSuchElementException"), ("java/lang/IllegalStateException", "java/util/NoSuchElementException"), ("java/lang/IllegalArgumentException", "java/lang/IllegalStateException"), ("java/lang/IndexOutOfBoundsException", "java/lang/IllegalStateException"), ("java/util/NoSuchElementException", "java/lang/IllegalStateException")]
def RM (M : Mem) : Prop := ∀ k i, inR (M k i)
def tyl (ca : Nat → ClassId) : List (ClassId × FieldType) := [(ca 0, .int), (ca 1, .boolean), (ca 2, .byte), (ca 3, .object "BracketHall$Page"), (ca 4, .long)]
def Wd (G : Gl) (M : Mem) (H : Heap) : Prop := va_P G.1 vwCl (wrl G.2.1 G.2.2.1 M) H ∧ RM M
abbrev fre (G : Gl) : Nat → Prop := fun q => G.2.2.1 ≤ q
theorem wrl_D (G : Gl) (M : Mem) : va_D (fre G) (wrl G.2.1 G.2.2.1 M) := by
  have key : ∀ (k : Nat) (q : Nat × va_E), (wrl G.2.1 G.2.2.1 M)[k]? = some q → q.1 = G.2.2.1 + k := by
    intro k q h
    have hk : k < NO := by
      have := (List.getElem?_eq_some_iff.mp h).1
      simpa [wrl] using this
    rw [wrl_at _ _ _ hk] at h
    cases h
    rfl
  refine ⟨fun i j p q hi hj hpq => ?_, fun k q h => ?_⟩
  · have := key i p hi
    have := key j q hj
    omega
  · have := key k q h
    show G.2.2.1 ≤ q.1
    omega
/-! what the tables say, told of a state -/
def tbOK (w : Cond) : Bool := w.onTables && (w.keeps || (match w with | .fieldLinkNest .. => true | .methodLinkNest .. => true | .declares _ => true | .castable .. => true | _ => false))
def TB (U : State) : Prop := ∀ w ∈ lw_tbl, tbOK w = true → va_Nw w U
theorem TB.use {U : State} (h : TB U) {w : Cond} (hw : w ∈ lw_tbl) (ho : tbOK w = true) {args : Array Value} : w.before args U = true := by
  have h1 := h w hw ho
  simp only [tbOK, Bool.and_eq_true] at ho
  exact va_Nw.use ho.1 h1
theorem TB.warm {s U : State} (hW : s.WarmedH U.vm) (h : TB s) : TB U := by
  intro w hw ho
  have h1 := h w hw ho
  have ho' := ho
  simp only [tbOK, Bool.and_eq_true, Bool.or_eq_true] at ho
  obtain ⟨ha, hb⟩ := ho
  rcases hb with hb | hb
  · exact word_at hW (Or.inl (by rw [ha, hb]; rfl)) h1
  · cases w <;> first | (simp at hb; done) | exact va_Nw.warmF hW h1 | exact va_Nw.warmM hW h1 | exact va_Nw.warmD hW h1 | exact va_Nw.warmC hW h1
theorem TB.same {s U : State} (hv : s.vm = U.vm) (h : TB s) : TB U := by
  intro w hw ho
  have h1 := h w hw ho
  simp only [tbOK, Bool.and_eq_true] at ho
  exact va_Nw.same ho.1 hv h1
/-- the strings: which class's constant, its text -/
def strT : List (String × Nat × String) := [("BracketHall", 392, "length out of range"), ("BracketHall$Setting", 41, "kinds"), ("BracketHall$Setting", 84, "quote"), ("BracketHall$Setting", 107, "escape"), ("BracketHall$Setting", 89, "note"), ("BracketHall$Setting", 94, "colours"), ("BracketHall$Setting", 98, "costs"), ("BracketHall", 204, "no such count"), ("BracketHall", 399, "no such place of a byte"), ("BracketHall", 236, "no such property"), ("BracketHall", 422, "no bracket with a partner"), ("BracketHall", 416, "no such kind"), ("BracketHall", 266, "no such count of a kind"), ("BracketHall", 286, "no such step"), ("BracketHall", 298, "no such property of a step"), ("BracketHall", 418, "no such mark"), ("BracketHall", 405, "no such place"), ("BracketHall", 411, "no such range"), ("BracketHall", 366, "colours out of range"), ("BracketHall", 371, "cost out of range"), ("BracketHall$Orders", 51, "erase"), ("BracketHall$Orders", 57, "put"), ("BracketHall$Orders", 59, "swap"), ("BracketHall$Orders", 61, "wrap"), ("BracketHall$Orders", 63, "repair"), ("BracketHall$Orders", 65, "want"), ("BracketHall", 420, "no such slot"), ("BracketHall", 389, "the slot is empty"), ("BracketHallModel", 234, "kinds"), ("BracketHallModel", 213, "quote"), ("BracketHallModel", 204, "escape"), ("BracketHallModel", 217, "note"), ("BracketHallModel", 221, "colours"), ("BracketHallModel", 226, "costs"), ("BracketHallModel", 383, "erase"), ("BracketHallModel", 385, "put"), ("BracketHallModel", 387, "swap"), ("BracketHallModel", 389, "wrap"), ("BracketHallModel", 391, "repair"), ("BracketHallModel", 393, "want")]
def lenT : List Nat := [19, 5, 5, 6, 4, 7, 5, 13, 23, 16, 25, 12, 23, 12, 26, 12, 13, 13, 20, 17, 5, 3, 4, 4, 6, 4, 12, 17, 5, 5, 6, 4, 7, 5, 5, 3, 4, 4, 6, 4]
def bytT : List (List Int32) := [[108, 101, 110, 103, 116, 104, 32, 111, 117, 116, 32, 111, 102, 32, 114, 97, 110, 103, 101], [107, 105, 110, 100, 115], [113, 117, 111, 116, 101], [101, 115, 99, 97, 112, 101], [110, 111, 116, 101], [99, 111, 108, 111, 117, 114, 115], [99, 111, 115, 116, 115], [110, 111, 32, 115, 117, 99, 104, 32, 99, 111, 117, 110, 116], [110, 111, 32, 115, 117, 99, 104, 32, 112, 108, 97, 99, 101, 32, 111, 102, 32, 97, 32, 98, 121, 116, 101], [110, 111, 32, 115, 117, 99, 104, 32, 112, 114, 111, 112, 101, 114, 116, 121], [110, 111, 32, 98, 114, 97, 99, 107, 101, 116, 32, 119, 105, 116, 104, 32, 97, 32, 112, 97, 114, 116, 110, 101, 114], [110, 111, 32, 115, 117, 99, 104, 32, 107, 105, 110, 100], [110, 111, 32, 115, 117, 99, 104, 32, 99, 111, 117, 110, 116, 32, 111, 102, 32, 97, 32, 107, 105, 110, 100], [110, 111, 32, 115, 117, 99, 104, 32, 115, 116, 101, 112], [110, 111, 32, 115, 117, 99, 104, 32, 112, 114, 111, 112, 101, 114, 116, 121, 32, 111, 102, 32, 97, 32, 115, 116, 101, 112], [110, 111, 32, 115, 117, 99, 104, 32, 109, 97, 114, 107], [110, 111, 32, 115, 117, 99, 104, 32, 112, 108, 97, 99, 101], [110, 111, 32, 115, 117, 99, 104, 32, 114, 97, 110, 103, 101], [99, 111, 108, 111, 117, 114, 115, 32, 111, 117, 116, 32, 111, 102, 32, 114, 97, 110, 103, 101], [99, 111, 115, 116, 32, 111, 117, 116, 32, 111, 102, 32, 114, 97, 110, 103, 101], [101, 114, 97, 115, 101], [112, 117, 116], [115, 119, 97, 112], [119, 114, 97, 112], [114, 101, 112, 97, 105, 114], [119, 97, 110, 116], [110, 111, 32, 115, 117, 99, 104, 32, 115, 108, 111, 116], [116, 104, 101, 32, 115, 108, 111, 116, 32, 105, 115, 32, 101, 109, 112, 116, 121], [107, 105, 110, 100, 115], [113, 117, 111, 116, 101], [101, 115, 99, 97, 112, 101], [110, 111, 116, 101], [99, 111, 108, 111, 117, 114, 115], [99, 111, 115, 116, 115], [101, 114, 97, 115, 101], [112, 117, 116], [115, 119, 97, 112], [119, 114, 97, 112], [114, 101, 112, 97, 105, 114], [119, 97, 110, 116]]
def NS : Nat := 40
/-- what is known of the state all the time: the tables, the classes, Throwable's two statics, the strings -/
def En (G : Gl) (U : State) : Prop :=
  TB U ∧ va_K G.1 vwCl (tyl G.2.1) U ∧ vx_Zq Bundle.tN "UNASSIGNED_STACK" Bundle.steD (fre G) U U.heap ∧ vx_Zq Bundle.tN "SUPPRESSED_SENTINEL" Bundle.listD (fre G) U U.heap ∧
  (∀ (j : Nat) (q : String × Nat × String), strT[j]? = some q → vk_R q.1 q.2.1 q.2.2 (G.2.2.2.1 (200 + j)) U) ∧
  (∀ j : Nat, j < NS → vk_S 1 [lenT.getD j 0] [bytT.getD j []] (fun _ => G.2.2.2.1 (200 + j)) (fun _ => G.2.2.2.1 (300 + j)) (fre G) U U.heap) ∧ (∀ k, k < 199 → G.2.2.2.1 k = G.2.2.1 + k) ∧ G.2.2.1 ≤ U.heap.size ∧
  va_Z "java/lang/String" "COMPACT_STRINGS" "Z" (.int 1) (fre G) U U.heap ∧ va_Zq "jdk/internal/util/Preconditions" "SIOOBE_FORMATTER" "Ljava/util/function/BiFunction;" (fre G) U U.heap ∧
  (∀ q ∈ ncT, va_Nc q.1 q.2 U) ∧ va_X (G.2.2.2.1 199) G.2.2.2.2.1 G.2.2.2.2.2 U U.heap ∧ G.2.2.2.1 199 < G.2.2.1
theorem En.moved {G : Gl} {s U : State} {H : Heap} {locs : List Loc} (h : En G s) (hW : s.WarmedH U.vm) (hH : U.heap = H) (hS : va_S (fre G) s.heap H locs) : En G U := by
  obtain ⟨h1, h2, h3, h4, h5, h6, h7, h8, h9, h10, h11, h12, h13⟩ := h
  subst hH
  exact ⟨h1.warm hW, va_K.moved hW.alike h2, (h3.kept hS.2.1).moved hW.alike, (h4.kept hS.2.1).moved hW.alike, fun j q hq => vk_R.warm hW (h5 j q hq), fun j hj => ((h6 j hj).kept hS.2.1).moved hW.alike, h7, Nat.le_trans h8 hS.1, va_Z.moved hW.alike (va_Z.kept h9 hS.2.1), va_Zq.moved hW.alike (va_Zq.kept h10 hS.2.1), fun q hq => (h11 q hq).moved hW.alike, (h12.kept (hS.2.1 _ (Nat.lt_of_lt_of_le h13 h8) (Nat.not_le.mpr h13))).moved hW.alike, h13⟩
/-! values that stand for others -/
def Rv (ad : Nat → Nat) : AV → Value → Prop
  | .inl i, .int x => x.toInt = i
  | .inr (.inl k), .ref a => a = ad k
  | .inr (.inr v), w => w = v
  | _, _ => False
/-- .. a number or a reference -/
def Rw (ad : Nat → Nat) : AV → Value → Prop
  | .inl i, .int x => x.toInt = i
  | .inr (.inl k), .ref a => a = ad k
  | _, _ => False
def Rs (ad : Nat → Nat) : List AV → List Value → Prop
  | [], [] => True
  | a :: as, v :: vs => Rv ad a v ∧ Rs ad as vs
  | _, _ => False
theorem Rw.v {ad : Nat → Nat} {a : AV} {v : Value} (h : Rw ad a v) : Rv ad a v ∧ v.category = 1 := by
  rcases a with i | k | w <;> cases v <;> first | exact ⟨h, rfl⟩ | exact h.elim
theorem Rv_int {ad : Nat → Nat} {i : Int} {v : Value} (h : Rv ad (aI i) v) : ∃ x : Int32, v = .int x ∧ x.toInt = i := by
  cases v <;> first | exact ⟨_, rfl, h⟩ | exact h.elim
theorem Rv_ref {ad : Nat → Nat} {k : Nat} {v : Value} (h : Rv ad (aR k) v) : v = .ref (ad k) := by
  cases v with
  | ref a => exact congrArg Value.ref h
  | _ => exact h.elim
theorem Rs_cons {ad : Nat → Nat} {a : AV} {as : List AV} {vs : List Value} (h : Rs ad (a :: as) vs) : ∃ v vs', vs = v :: vs' ∧ Rv ad a v ∧ Rs ad as vs' := by
  cases vs with
  | nil => exact h.elim
  | cons v vs' => exact ⟨v, vs', rfl, h.1, h.2⟩
theorem Rs_int {ad : Nat → Nat} {i : Int} {as : List AV} {vs : List Value} (h : Rs ad (aI i :: as) vs) : ∃ x vs', vs = .int x :: vs' ∧ x.toInt = i ∧ Rs ad as vs' := by
  obtain ⟨v, vs', rfl, h1, h2⟩ := Rs_cons h
  obtain ⟨x, rfl, hx⟩ := Rv_int h1
  exact ⟨x, vs', rfl, hx, h2⟩
theorem Rs_ref {ad : Nat → Nat} {k : Nat} {as : List AV} {vs : List Value} (h : Rs ad (aR k :: as) vs) : ∃ vs', vs = .ref (ad k) :: vs' ∧ Rs ad as vs' := by
  obtain ⟨v, vs', rfl, h1, h2⟩ := Rs_cons h
  have := Rv_ref h1
  subst this
  exact ⟨vs', rfl, h2⟩
theorem Rs_nil {ad : Nat → Nat} {vs : List Value} (h : Rs ad [] vs) : vs = [] := by
  cases vs with
  | nil => rfl
  | cons _ _ => exact h.elim
theorem Rs_app {ad : Nat → Nat} : ∀ {as bs : List AV} {vs : List Value}, Rs ad (as ++ bs) vs → ∃ us ws, vs = us ++ ws ∧ Rs ad as us ∧ Rs ad bs ws ∧ us.length = as.length := by
  intro as
  induction as with
  | nil => intro bs vs h; exact ⟨[], vs, rfl, trivial, h, rfl⟩
  | cons a as ih =>
    intro bs vs h
    obtain ⟨v, vs', rfl, h1, h2⟩ := Rs_cons h
    obtain ⟨us, ws, rfl, h3, h4, h5⟩ := ih h2
    exact ⟨v :: us, ws, rfl, ⟨h1, h3⟩, h4, by simp [h5]⟩
theorem Rs_join {ad : Nat → Nat} : ∀ {as bs : List AV} {us ws : List Value}, Rs ad as us → Rs ad bs ws → Rs ad (as ++ bs) (us ++ ws) := by
  intro as
  induction as with
  | nil => intro bs us ws h1 h2; have := Rs_nil h1; subst this; exact h2
  | cons a as ih =>
    intro bs us ws h1 h2
    obtain ⟨v, vs', rfl, h3, h4⟩ := Rs_cons h1
    exact ⟨h3, ih h4 h2⟩
theorem Rs_rev {ad : Nat → Nat} : ∀ {as : List AV} {us : List Value}, Rs ad as us → Rs ad as.reverse us.reverse := by
  intro as
  induction as with
  | nil => intro us h; have := Rs_nil h; subst this; trivial
  | cons a as ih =>
    intro us h
    obtain ⟨v, vs', rfl, h3, h4⟩ := Rs_cons h
    rw [List.reverse_cons, List.reverse_cons]
    exact Rs_join (ih h4) ⟨h3, trivial⟩
def Rl (ad : Nat → Nat) (nL : Nat) (L : List (Option AV)) (ls : Array Slot) : Prop := ls.size = nL ∧ lv_wf ls ∧ ∀ (i : Nat) (a : AV), L[i]? = some (some a) → ∃ v, ls[i]? = some (.val v) ∧ Rw ad a v
/-- every value that lies in the locals -/
def lvA (ls : Array Slot) : List (Nat × Value) := (List.range ls.size).filterMap (fun (i : Nat) => match ls[i]? with | some (.val v) => some (i, v) | _ => none)
theorem lvA_mem {ls : Array Slot} {i : Nat} {v : Value} (h : ls[i]? = some (.val v)) : (i, v) ∈ lvA ls := by
  refine List.mem_filterMap.mpr ⟨i, List.mem_range.mpr (Array.getElem?_eq_some_iff.mp h).1, ?_⟩
  rw [h]
theorem lvA_has {ad : Nat → Nat} {nL : Nat} {L : List (Option AV)} {ls : Array Slot} (h : Rl ad nL L ls) : lv_has ls nL (lvA ls) := by
  refine ⟨h.1, h.2.1, fun q hq => ?_⟩
  obtain ⟨i, -, hi⟩ := List.mem_filterMap.mp hq
  revert hi
  cases hs : ls[i]? with
  | none => intro hi; cases hi
  | some x =>
    cases x <;> intro hi <;> cases hi
    exact hs
theorem Rl_store {ad : Nat → Nat} {nL : Nat} {L : List (Option AV)} {ls ls' : Array Slot} {i : Nat} {a : AV} {x : Value} (h : Rl ad nL L ls) (hx : Rw ad a x)
    (h' : lv_has ls' nL ((i, x) :: (lvA ls).filter (fun q => !(q.1 == i) && !(q.1 + 1 == i && q.2.category == 2)))) : Rl ad nL (L.set i (some a)) ls' := by
  refine ⟨h'.1, h'.2.1, fun j b hj => ?_⟩
  by_cases e : j = i
  · subst e
    have hlt : j < L.length := by
      have := (List.getElem?_eq_some_iff.mp hj).1
      simpa using this
    rw [List.getElem?_set_self hlt] at hj
    cases hj
    exact ⟨x, h'.2.2 (j, x) List.mem_cons_self, hx⟩
  · rw [List.getElem?_set_ne (Ne.symm e)] at hj
    obtain ⟨v, hv, hr⟩ := h.2.2 j b hj
    refine ⟨v, h'.2.2 (j, v) (List.mem_cons_of_mem _ (List.mem_filter.mpr ⟨lvA_mem hv, ?_⟩)), hr⟩
    have hc := hr.v.2
    simp [e, hc]
def lsub : List (Option AV) → List (Option AV) → Prop
  | [], _ => True
  | none :: a, _ :: b => lsub a b
  | some x :: a, y :: b => y = some x ∧ lsub a b
  | none :: a, [] => lsub a []
  | some _ :: _, [] => False
theorem lsub_at : ∀ {A B : List (Option AV)}, lsub A B → ∀ (i : Nat) (a : AV), A[i]? = some (some a) → B[i]? = some (some a) := by
  intro A
  induction A with
  | nil => intro B _ i a h; simp at h
  | cons x A ih =>
    intro B hs i a h
    cases x with
    | none =>
      cases B with
      | nil =>
        cases i with
        | zero => simp at h
        | succ i => have := ih (B := []) hs i a (by simpa using h); simp at this
      | cons y B =>
        cases i with
        | zero => simp at h
        | succ i => exact ih hs i a (by simpa using h)
    | some z =>
      cases B with
      | nil => exact hs.elim
      | cons y B =>
        obtain ⟨h1, h2⟩ := hs
        cases i with
        | zero => rw [h1]; exact h
        | succ i => exact ih h2 i a (by simpa using h)
theorem Rl_sub {ad : Nat → Nat} {nL : Nat} {L L' : List (Option AV)} {ls : Array Slot} (h : Rl ad nL L ls) (hs : lsub L' L) : Rl ad nL L' ls := ⟨h.1, h.2.1, fun i a hi => h.2.2 i a (lsub_at hs i a hi)⟩
