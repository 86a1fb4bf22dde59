/-! THE PURE MACHINE: a heap of numbered cells (shape, ints, longs, references), a frame of known locals and a stack; 'Go': the machine, at this frame and heap, comes to its method's end as Q says; 'wp': what one stretch of instructions asks for. -/
abbrev AH : Type := Nat × Nat × (Nat → Nat × Nat) × (Nat → Nat → Int32) × (Nat → Nat → Int64) × (Nat → Nat → Option Nat)
abbrev GT : Type := Launch × (Nat × Nat × (Nat → Int32)) × Nat × (Nat → ClassId) × (Nat → Nat → Nat) × (Nat → ClassId)
def gL (g : GT) : Launch := g.1
def gS (g : GT) : Nat := g.2.1.1
def gN (g : GT) : Nat := g.2.1.2.1
def gX (g : GT) : Nat → Int32 := g.2.1.2.2
def gB (g : GT) : Nat := g.2.2.1
def gC (g : GT) : Nat → ClassId := g.2.2.2.1
def gI (g : GT) : Nat → Nat → Nat := g.2.2.2.2.1
def gA (g : GT) : Nat → ClassId := g.2.2.2.2.2
def rv (B : Nat) : Option Nat → Value
  | none => .null
  | some q => .ref (B + q)
def cval (co B : Nat) (I : Nat → Nat → Int32) (J : Nat → Nat → Int64) (R : Nat → Nat → Option Nat) (k j : Nat) : Value :=
  match co with
  | 0 => .int (I k j)
  | 1 => .long (J k j)
  | _ => rv B (R k j)
def fco : FieldType → Nat
  | .long => 1
  | .object _ => 2
  | .array _ => 2
  | _ => 0
def cAtS (g : GT) (h : AH) (H : Heap) (k : Nat) (s : Nat × Nat) : Prop :=
  match s with
  | (0, 0) => True
  | (0, c + 1) => ∃ q : vw_C, kcl[c]? = some q ∧ t_OB (gB g + k) (gC g c) q.2.2 (gI g c) H (fun j => cval (fco (ktyp c j)) (gB g) h.2.2.2.1 h.2.2.2.2.1 h.2.2.2.2.2 k j)
  | (t + 1, len) => t < kna ∧ H[gB g + k]? = some (arrV (gA g t) len (fun j => cval (fco (kak t)) (gB g) h.2.2.2.1 h.2.2.2.2.1 h.2.2.2.2.2 k j))
def RT (g : GT) (s : State) : Prop :=
  (∀ (c : Nat) (q : vw_C), kcl[c]? = some q → u_Kn s q.1 q.2.1 q.2.2 (gC g c) (gI g c)) ∧ (∀ t, t < kna → ArrOfT s (gA g t) (kak t) ∧ va_RA s (gA g t) (kak t)) ∧ (∀ w ∈ knst, va_Nw w s) ∧ (∀ C ∈ kao, va_AO C s)
def RH (g : GT) (h : AH) (H : Heap) : Prop :=
  H.size = gB g + h.1 ∧ (∀ k, cAtS g h H k (h.2.2.1 k)) ∧ (∀ k, h.1 ≤ k → h.2.2.1 k = (0, 0)) ∧ gS g < gB g
theorem RT.moved {g : GT} {s U : State} (hW : s.WarmedH U.vm) (h : RT g s) : RT g U := by
  obtain ⟨h1, h2, h3, h4⟩ := h
  refine ⟨fun c q hq => u_Kn_moved hW.alike (h1 c q hq), fun t ht => ⟨arrOfT_moved hW.alike (h2 t ht).1, (h2 t ht).2.moved hW.alike⟩, fun w hw => knst_moved hW w hw (h3 w hw), fun C hC => (h4 C hC).moved hW.alike⟩
theorem RT.same {g : GT} {s U : State} (hv : s.vm = U.vm) (h : RT g s) : RT g U := by
  obtain ⟨h1, h2, h3, h4⟩ := h
  have ha : s.vm.Alike U.vm := by rw [hv]; exact Vm.Alike.refl _
  refine ⟨fun c q hq => u_Kn_moved ha (h1 c q hq), fun t ht => ⟨arrOfT_moved ha (h2 t ht).1, (h2 t ht).2.moved ha⟩, fun w hw => (h3 w hw).same (knst_tab w hw) hv, fun C hC => (h4 C hC).moved ha⟩
theorem RH.obj {g : GT} {h : AH} {H : Heap} {k c : Nat} {q : vw_C} (hR : RH g h H) (hS : h.2.2.1 k = (0, c + 1)) (hq : kcl[c]? = some q) :
    t_OB (gB g + k) (gC g c) q.2.2 (gI g c) H (fun j => cval (fco (ktyp c j)) (gB g) h.2.2.2.1 h.2.2.2.2.1 h.2.2.2.2.2 k j) := by
  have h1 := hR.2.1 k
  rw [hS] at h1
  obtain ⟨q', e, h2⟩ := h1
  cases e.symm.trans hq
  exact h2
theorem RH.cls {g : GT} {h : AH} {H : Heap} {k c : Nat} (hR : RH g h H) (hS : h.2.2.1 k = (0, c + 1)) : ∃ q, kcl[c]? = some q := by
  have h1 := hR.2.1 k
  rw [hS] at h1
  obtain ⟨q', e, h2⟩ := h1
  exact ⟨q', e⟩
theorem RH.arr {g : GT} {h : AH} {H : Heap} {k t len : Nat} (hR : RH g h H) (hS : h.2.2.1 k = (t + 1, len)) :
    t < kna ∧ H[gB g + k]? = some (arrV (gA g t) len (fun j => cval (fco (kak t)) (gB g) h.2.2.2.1 h.2.2.2.2.1 h.2.2.2.2.2 k j)) := by
  have h1 := hR.2.1 k
  rw [hS] at h1
  exact h1
theorem cAtS.kept {g : GT} {h h' : AH} {H H' : Heap} {k : Nat} {s : Nat × Nat} (hc : cAtS g h H k s) (hH : H'[gB g + k]? = H[gB g + k]?) (hI : h'.2.2.2.1 k = h.2.2.2.1 k) (hJ : h'.2.2.2.2.1 k = h.2.2.2.2.1 k) (hR : h'.2.2.2.2.2 k = h.2.2.2.2.2 k) : cAtS g h' H' k s := by
  have hv : ∀ co j, cval co (gB g) h'.2.2.2.1 h'.2.2.2.2.1 h'.2.2.2.2.2 k j = cval co (gB g) h.2.2.2.1 h.2.2.2.2.1 h.2.2.2.2.2 k j := by
    intro co j
    unfold cval
    rw [hI, hJ, hR]
  match s, hc with
  | (0, 0), _ => trivial
  | (0, c + 1), ⟨q, hq, ho⟩ => exact ⟨q, hq, (ho.kept hH).to (fun j _ => (hv _ j).symm)⟩
  | (t + 1, len), hc =>
    refine ⟨hc.1, ?_⟩
    rw [hH, hc.2]
    congr 2
    funext j
    exact (hv _ j).symm
/-- one cell changed -/
theorem RH.put {g : GT} {n z : Nat} {S : Nat → Nat × Nat} {I I' : Nat → Nat → Int32} {J J' : Nat → Nat → Int64} {R R' : Nat → Nat → Option Nat} {H H' : Heap} {k : Nat} (hR : RH g (n, z, S, I, J, R) H) (hz : H'.size = H.size) (ho : ∀ q, q ≠ gB g + k → H'[q]? = H[q]?)
    (hI : ∀ a, a ≠ k → I' a = I a) (hJ : ∀ a, a ≠ k → J' a = J a) (hRr : ∀ a, a ≠ k → R' a = R a) (hc : cAtS g (n, z, S, I', J', R') H' k (S k)) : RH g (n, z, S, I', J', R') H' := by
  obtain ⟨h1, h2, h3, h4⟩ := hR
  refine ⟨hz.trans h1, fun a => ?_, h3, h4⟩
  by_cases ha : a = k
  · subst ha; exact hc
  · exact (h2 a).kept (h := (n, z, S, I, J, R)) (ho _ (by omega)) (hI a ha) (hJ a ha) (hRr a ha)
/-- one cell more -/
theorem RH.push {g : GT} {n z w : Nat} {S : Nat → Nat × Nat} {I I' : Nat → Nat → Int32} {J J' : Nat → Nat → Int64} {R R' : Nat → Nat → Option Nat} {H H' : Heap} {sh : Nat × Nat} (hR : RH g (n, z, S, I, J, R) H) (hz : H'.size = H.size + 1) (ho : ∀ q, q < H.size → H'[q]? = H[q]?)
    (hI : ∀ a, a ≠ n → I' a = I a) (hJ : ∀ a, a ≠ n → J' a = J a) (hRr : ∀ a, a ≠ n → R' a = R a) (hc : cAtS g (n + 1, w, va_up S n sh, I', J', R') H' n sh) : RH g (n + 1, w, va_up S n sh, I', J', R') H' := by
  obtain ⟨h1, h2, h3, h4⟩ := hR
  refine ⟨by rw [hz, h1]; show gB g + n + 1 = gB g + (n + 1); omega, fun a => ?_, fun a ha => ?_, h4⟩
  · by_cases ha : a = n
    · subst ha
      show cAtS g _ H' a (va_up S a sh a)
      rw [va_up_self]
      exact hc
    · show cAtS g _ H' a (va_up S n sh a)
      rw [va_up_ne _ _ ha]
      by_cases hl : a < n
      · exact (h2 a).kept (h := (n, z, S, I, J, R)) (ho _ (by rw [h1]; show gB g + a < gB g + n; omega)) (hI a ha) (hJ a ha) (hRr a ha)
      · have e : S a = (0, 0) := h3 a (Nat.le_of_not_lt hl)
        rw [e]
        trivial
  · show va_up S n sh a = (0, 0)
    have ha' : n + 1 ≤ a := ha
    rw [va_up_ne _ _ (by omega)]
    exact h3 a (by show n ≤ a; omega)
