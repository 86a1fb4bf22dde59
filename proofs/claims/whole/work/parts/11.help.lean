/-! how contracts are used -/
theorem rs_ok {r : List Value} (h : Nat.ble (rs r) 8 = true) : rs r ≤ 8 := Nat.le_of_ble_eq_true h
/-- what a method without news answers: r, and the heap h' -/
abbrev Is (r : Option Value) (h' : AH) : Option Value → AH → Prop := fun a b => a = r ∧ b = h'
theorem call_is {g : GT} {d n0 z0 mc ms d' mc' ms' : Nat} {m : MI} {as rest : List Value} {h h' : AH} {r : Option Value} {f : List Value → AH → Prop} (hc : Cn g m d' mc' ms' as h (Is r h')) (hd : d' < d) (h1 : h.1 + mc' ≤ n0 + mc) (h2 : h.2.1 + ms' ≤ z0 + ms) (hr : Nat.ble (rs rest) 8 = true) (k : f (r.toList ++ rest) h') : call g d n0 z0 mc ms m as rest h f :=
  ⟨d', mc', ms', _, hc, hd, h1, h2, rs_ok hr, fun a b q _ _ => by rw [q.1, q.2]; exact k⟩
/-- the same, nothing made -/
theorem call_ro {g : GT} {d n0 z0 mc ms d' n z : Nat} {S : Nat → Nat × Nat} {I : Nat → Nat → Int32} {J : Nat → Nat → Int64} {R : Nat → Nat → Option Nat} {m : MI} {as rest : List Value} {h' : AH} {r : Option Value} {f : List Value → AH → Prop} (hc : Cn g m d' 0 0 as (n, z, S, I, J, R) (Is r h')) (hd : d' < d) (hr : Nat.ble (rs rest) 8 = true) (h1 : n ≤ n0 + mc) (h2 : z ≤ z0 + ms) (k : f (r.toList ++ rest) h') : call g d n0 z0 mc ms m as rest (n, z, S, I, J, R) f :=
  call_is hc hd h1 h2 hr k
theorem call_ex {g : GT} {d n0 z0 mc ms d' mc' ms' : Nat} {m : MI} {as rest : List Value} {h : AH} {Q : Option Value → AH → Prop} {f : List Value → AH → Prop} (hc : Cn g m d' mc' ms' as h Q) (hd : d' < d) (h1 : h.1 + mc' ≤ n0 + mc) (h2 : h.2.1 + ms' ≤ z0 + ms) (hr : Nat.ble (rs rest) 8 = true) (k : ∀ (r : Option Value) (h' : AH), Q r h' → h'.1 = h.1 + mc' → h'.2.1 = h.2.1 + ms' → f (r.toList ++ rest) h') : call g d n0 z0 mc ms m as rest h f :=
  ⟨d', mc', ms', _, hc, hd, h1, h2, rs_ok hr, k⟩
theorem up_s {α : Type} (f : Nat → α) (k : Nat) (v : α) : va_up f k v k = v := va_up_self f k v
theorem up_n {α : Type} (f : Nat → α) (k j : Nat) (v : α) (h : Nat.beq j k = false) : va_up f k v j = f j := va_up_ne f v (fun e => by rw [e] at h; simp at h)
theorem up_if {α : Type} (f : Nat → α) (k j : Nat) (v : α) : va_up f k v j = if j = k then v else f j := rfl
theorem toL_some (v : Value) (r : List Value) : (some v).toList ++ r = v :: r := rfl
theorem toL_none (r : List Value) : (none : Option Value).toList ++ r = r := rfl
