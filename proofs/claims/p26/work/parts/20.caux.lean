/-! Rows that the landed class's methods need besides: the static row of handicap points. -/
def hpI (j : Nat) : Int32 := match j with | 0 => 16 | 1 => 32 | 2 => 18 | _ => 30
section CAUX
variable {M : xM} {rm : Room} {l : Launch} {g : xG} {x0 : xV} {o1 : Option Value ⊕ String} {x1 : xV} {kc ks : Nat} {x : xV} {pc : Nat} {lv : List (Nat × Value)} {st : List Value}
theorem aw_gslen {own ref n d : String} {index : Nat} (ho : own = M.1) (href : (ref, n, d) = (RX4, "HANDICAP_POINTS", "[I")) (hl0 : Cond.fieldLink own index ref n d ∈ wt) (hd : decode M.2.1 pc = .ok (.getstatic index, 3)) (hd2 : decode M.2.1 (pc + 3) = .ok (.arraylength, 1))
    (k : AW M rm l g x0 o1 x1 kc ks x (pc + 3 + 1) lv (.int (4 : Int32) :: st)) : AW M rm l g x0 o1 x1 kc ks x pc lv st := fun p e s m args below meth c B H locs ls hH hl => by
  cases href
  obtain ⟨⟨t, hZ, hT⟩, -⟩ := B.2.2.2.2.2.2.2.2.2.2.1.1
  refine va_gets B.1 B.2.1 hZ hH.2.2 (by rw [ho]; exact B.2.2.2.2.2.1) (B.2.2.2.2.2.2.1 _ hl0) (fun _ h => h) hd ?_
  exact va_tlen B.1 B.2.1 hT hH.2.2 (v := 4) (by decide) hd2 (k p e s m args below meth c B H locs ls hH hl)
theorem aw_gsld (j : Nat) {own ref n d : String} {index : Nat} {q : Fin 4} {i : Int32} (ho : own = M.1) (href : (ref, n, d) = (RX4, "HANDICAP_POINTS", "[I")) (hl0 : Cond.fieldLink own index ref n d ∈ wt) (hd : decode M.2.1 pc = .ok (.getstatic index, 3)) (hd2 : decode M.2.1 (pc + 3) = .ok (.iload_n q, 1)) (hj : lv[j]? = some ((q : Nat), .int i)) (hd3 : decode M.2.1 (pc + 3 + 1) = .ok (.iaload, 1)) (hi : vp_in i 4)
    (k : AW M rm l g x0 o1 x1 kc ks x (pc + 3 + 1 + 1) lv (.int (hpI i.toNatClampNeg) :: st)) : AW M rm l g x0 o1 x1 kc ks x pc lv st := fun p e s m args below meth c B H locs ls hH hl => by
  cases href
  obtain ⟨⟨t, hZ, hT⟩, -⟩ := B.2.2.2.2.2.2.2.2.2.2.1.1
  refine va_gets B.1 B.2.1 hZ hH.2.2 (by rw [ho]; exact B.2.2.2.2.2.1) (B.2.2.2.2.2.2.1 _ hl0) (fun _ h => h) hd ?_
  refine lv_iload_n B.1 B.2.1 hd2 rfl (lv_at hl j hj) ?_
  exact va_ti B.1 B.2.1 hT hH.2.2 hi (v := .int (hpI i.toNatClampNeg)) rfl hd3 (k p e s m args below meth c B H locs ls hH hl)
end CAUX
