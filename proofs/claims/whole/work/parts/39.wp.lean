/-! ===== a function comes to an end, and what holds of it ===== -/
def Ok {β : Type} (x : Option β) (P : β → Prop) : Prop := ∃ r, x = some r ∧ P r
theorem Ok.ret {β : Type} {P : β → Prop} {r : β} (h : P r) : Ok (some r) P := ⟨r, rfl, h⟩
theorem Ok.let {α β : Type} {a : α} {k : α → Option β} {P : β → Prop} (h : ∀ x, x = a → Ok (k x) P) : Ok (lt1 a k) P := h a rfl
theorem Ok.put {β : Type} {M : Mem} {o : Nat} {j v : Int} {k : Mem → Option β} {P : β → Prop} (h : ∀ M1 : Mem, (∀ b i, M1 b i = if b = o ∧ i = j then v else M b i) → Ok (k M1) P) : Ok (lt1 (up M o j v) k) P := h _ (fun _ _ => rfl)
theorem Ok.cpy {β : Type} {M : Mem} {a b : Nat} {s d n : Int} {k : Mem → Option β} {P : β → Prop} (h : ∀ M1 : Mem, (∀ c i, M1 c i = if c = b ∧ d ≤ i ∧ i < d + n then M a (s + (i - d)) else M c i) → Ok (k M1) P) : Ok (lt1 (upc M a s b d n) k) P := h _ (fun _ _ => rfl)
theorem Ok.bind {α β : Type} {x : Option α} {k : α → Option β} {Q : α → Prop} {P : β → Prop} (hx : Ok x Q) (h : ∀ p, Q p → Ok (k p) P) : Ok (x.bind k) P := by
  obtain ⟨p, rfl, hq⟩ := hx
  exact h p hq
theorem Ok.ifT {β : Type} {c : Prop} [Decidable c] {x y : Option β} {P : β → Prop} (hc : c) (h : Ok x P) : Ok (if c then x else y) P := by rw [if_pos hc]; exact h
theorem Ok.ifF {β : Type} {c : Prop} [Decidable c] {x y : Option β} {P : β → Prop} (hc : ¬ c) (h : Ok y P) : Ok (if c then x else y) P := by rw [if_neg hc]; exact h
theorem Ok.ifC {β : Type} {c : Prop} [Decidable c] {x y : Option β} {P : β → Prop} (h1 : c → Ok x P) (h2 : ¬ c → Ok y P) : Ok (if c then x else y) P := by
  by_cases hc : c
  · exact .ifT hc (h1 hc)
  · exact .ifF hc (h2 hc)
theorem Ok.mono {β : Type} {x : Option β} {P Q : β → Prop} (h : Ok x P) (hq : ∀ r, P r → Q r) : Ok x Q := by
  obtain ⟨r, e, hr⟩ := h
  exact ⟨r, e, hq r hr⟩
theorem Ok.eq {β : Type} {x y : Option β} {P : β → Prop} (e : x = y) (h : Ok y P) : Ok x P := by rw [e]; exact h
theorem Ok.val {β : Type} {x : Option β} {v : β} (h : x = some v) : Ok x (fun r => r = v) := ⟨v, h, rfl⟩
theorem w32e {x y : Int} (h : x = y) (h1 : -2147483648 ≤ y) (h2 : y ≤ 2147483647) : w32 x = y := by rw [h]; exact w32_of h1 h2
