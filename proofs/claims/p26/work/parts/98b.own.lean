/-! The law's own rows. -/
abbrev ML_law (nm : String) : xM := (RL, cL_law, 15, ret, nm)
def XLw (b L : Nat) (xs : Nat → Int32) : xXT := fun s args _ => args = #[Value.ref b] ∧ xK s ∧ va_X b L xs s s.heap
abbrev x0L (sz : Nat) : xV := (sz, fun _ => none)
theorem al_ret {b L : Nat} {xs : Nat → Int32} {nm : String} {l : Launch} {g : xG} {sz kc ks : Nat} {x : xV} {pc : Nat} {lv : List (Nat × Value)} (hd : decode cL_law pc = .ok (.ireturn, 1)) (hk : kc ≤ 600086 ∧ ks ≤ 7301441) : AWG (XLw b L xs) lw_Z (ML_law nm) room_1 l g (x0L sz) kc ks x pc lv [.int 1] := fun p e s m args below meth c B hX H locs ls hH hl => by
  obtain ⟨rfl, -, -⟩ := hX
  refine W.widen hk.1 hk.2 (va_forget (fun q hq => ?_) (lw_ret B.1 B.2.1 B.2.2.2.1 B.2.2.2.2.1 hd))
  rcases hH.2.2.2.2 q hq with h | h
  · exact absurd rfl h
  · rw [B.2.2.2.2.2.2.2.2.1]; exact h
