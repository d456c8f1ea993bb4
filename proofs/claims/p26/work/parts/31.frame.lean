/-! A contract keeps what lies beside its world. -/
def xU (x : xV) (y : Nat → Option va_E) : xV := (x.1, fun a => match x.2 a with | some e => some e | none => y a)
theorem xU_l {x : xV} {y : Nat → Option va_E} {a : Nat} {e : va_E} (h : x.2 a = some e) : (xU x y).2 a = some e := by simp [xU, h]
theorem xU_r {x : xV} {y : Nat → Option va_E} {a : Nat} (h : x.2 a = none) : (xU x y).2 a = y a := by simp [xU, h]
theorem xU_ne {x : xV} {y : Nat → Option va_E} {a : Nat} (h : (xU x y).2 a ≠ none) : x.2 a ≠ none ∨ y a ≠ none := by
  cases hx : x.2 a with
  | none => rw [xU_r hx] at h; exact Or.inr h
  | some e => exact Or.inl (fun z => by cases z)
theorem xU_F {x : xV} {y : Nat → Option va_E} : ∀ q, xF x q → xF (xU x y) q := fun q h => h.elim (fun h => by
  cases hx : x.2 q with
  | none => exact absurd hx h
  | some e => exact Or.inl (by rw [xU_l hx]; exact fun z => by cases z)) (fun h => Or.inr h)
theorem xI.narrow {x x' : xV} {U : State} {H : Heap} (h : xI x' U H) (hF : ∀ q, xF x q → xF x' q) : xI x U H := by
  obtain ⟨⟨t, h1, h2⟩, h3, h4, h5, h6, h7⟩ := h
  exact ⟨⟨t, h1.narrow hF, h2.narrow hF⟩, h3, h4, h5.narrow hF, h6.narrow hF, h7⟩
section FRAME
variable {g : xG} {x x2 : xV} {y : Nat → Option va_E} {s t : State} {H : Heap}
theorem xU_P (h : xP g (xU x y) H) : xP g x H := ⟨h.1, fun a e he => h.2 a e (xU_l he)⟩
theorem xU_Pc {av : List Value} {args : Array Value} (h : va_Pc av (xPc g (xU x y)) args s) : va_Pc av (xPc g x) args s := ⟨h.1, xU_P h.2.1, h.2.2.1, h.2.2.2.1.narrow xU_F, h.2.2.2.2⟩
theorem xU_end {z : Nat} (hdj : ∀ a, y a ≠ none → x.2 a = none ∧ a < x.1) (h0 : xP g (xU x y) s.heap) (h1 : xP g (z, x2.2) t.heap) (hF : va_F (xF x) s t) : xP g (z, (xU x2 y).2) t.heap := by
  refine ⟨h1.1, fun a e he => ?_⟩
  cases hx : x2.2 a with
  | some e2 =>
    rw [show (xU x2 y).2 a = some e2 from xU_l hx] at he
    cases he
    exact h1.2 a e hx
  | none =>
    rw [show (xU x2 y).2 a = y a from xU_r hx] at he
    obtain ⟨h2, h3⟩ := hdj a (by rw [he]; exact fun z => by cases z)
    refine (h0.2 a e (by rw [xU_r h2]; exact he)).kept (hF.2 a (by rw [h0.1]; exact h3) (fun z => ?_))
    rcases z with z | z
    · exact z h2
    · omega
theorem xU_D (hD : xD x x2) : xD (xU x y) (xU x2 y) := fun a h => by
  rcases xU_ne h with h | h
  · exact xU_F a (hD a h)
  · cases hx : x.2 a with
    | none => exact Or.inl (by rw [xU_r hx]; exact h)
    | some e => exact Or.inl (by rw [xU_l hx]; exact fun z => by cases z)
theorem xU_VF (hF : va_F (xF x) s t) : va_F (xF (xU x y)) s t := ⟨hF.1, fun q h1 h2 => hF.2 q h1 (fun z => h2 (xU_F q z))⟩
theorem CT.frame {yn : MethodName} {M : xM} {rm : Room} {l : Launch} {av : List Value} {o : Option Value ⊕ String} (hdj : ∀ a, y a ≠ none → x.2 a = none ∧ a < x.1) (h : CT yn M rm l g av x o x2) : CT yn M rm l g av (xU x y) o (xU x2 y) := by
  cases o with
  | inl v =>
    intro p e ha hc hk s m args below hf happ hP hK
    obtain ⟨n, o, h1, h2, h3, ⟨⟨hq1, hq2, hq3, hq4⟩, L, hL1, hL2⟩⟩ := h p e ha hc hk s m args below hf happ (xU_Pc hP) hK
    exact ⟨n, o, h1, h2, h3, ⟨⟨hq1, xU_end (z := x2.1) hdj hP.2.1 hq2 hq4, xU_D hq3, xU_VF hq4⟩, L, hL1, fun q hq => xU_F _ (hL2 q hq)⟩⟩
  | inr E =>
    intro p e ha hc hk s m args below hf happ hP hK
    obtain ⟨n, o, h1, h2, h3, hq⟩ := h p e ha hc hk s m args below hf happ (xU_Pc hP) hK
    refine ⟨n, o, h1, h2, h3, ?_⟩
    rcases hq with ⟨hq, -⟩ | ⟨q, ho, E', ce, L, ⟨hx1, ⟨z, hz1, hz2⟩, hx3, hx4⟩, k2, k3, k4, k5, k6, k7⟩
    · exact hq.elim
    · exact Or.inr ⟨q, ho, E', ce, L, ⟨hx1, ⟨z, hz1, xU_end (z := z) hdj hP.2.1 hz2 hx4⟩, xU_D hx3, xU_VF hx4⟩, k2, k3, k4, k5, k6, fun w hw => xU_F _ (k7 w hw)⟩
end FRAME
