/-! The reference's constructor: the object with i arrays made and j of its fields set. -/
def ms0 : MS := (fun _ => 0, fun _ => 0, fun _ _ => 0, fun _ _ => 0)
def moQ (mo j : Nat) : List Value := mtg.map (fun t => if t.1 = 0 then .int 0 else if t.1 = 1 then .long 0 else if t.2 < j then .ref (mo + 1 + t.2) else .null)
def mqE (g : xG) (mo i j : Nat) : xV := (mo + 1 + i, fun a => if a = mo then some (.inr (7, moQ mo j)) else if mo < a ∧ a < mo + 1 + i then moA g ms0 (a - mo - 1) else none)
theorem mq_ob {g : xG} {mo i j : Nat} : (mqE g mo i j).2 mo = some (.inr (7, moQ mo j)) := by simp [mqE]
theorem mq_new {g : xG} {mo i j : Nat} {e : va_E} (he : moA g ms0 i = some e) : xNew (mqE g mo i j) e = mqE g mo (i + 1) j := by
  refine Prod.ext rfl (funext fun q => ?_)
  show (if q = mo + 1 + i then some e else if q = mo then some (.inr (7, moQ mo j)) else if mo < q ∧ q < mo + 1 + i then moA g ms0 (q - mo - 1) else none) = (if q = mo then some (.inr (7, moQ mo j)) else if mo < q ∧ q < mo + 1 + (i + 1) then moA g ms0 (q - mo - 1) else none)
  by_cases h1 : q = mo + 1 + i
  · subst h1
    rw [if_pos rfl, if_neg (by omega), if_pos (by omega), show mo + 1 + i - mo - 1 = i by omega, he]
  · rw [if_neg h1]
    by_cases h2 : q = mo
    · rw [if_pos h2, if_pos h2]
    · rw [if_neg h2, if_neg h2]
      by_cases h3 : mo < q ∧ q < mo + 1 + i
      · rw [if_pos h3, if_pos (by omega)]
      · rw [if_neg h3, if_neg (by omega)]
theorem mtg_u : ∀ k, k < 48 → ∀ q, q < 48 → mtg[k]? = mtg[q]? → k = q := by decide +kernel
theorem mtg_2 : ∀ t ∈ mtg, t.1 ≠ 0 → t.1 ≠ 1 → t.1 = 2 ∧ t.2 < 38 := by decide +kernel
theorem mq_set {mo j k : Nat} (h : mtg[k]? = some (2, j)) : (moQ mo j).set k (.ref (mo + 1 + j)) = moQ mo (j + 1) := by
  have hk := (List.getElem?_eq_some_iff.mp h).1
  apply List.ext_getElem?
  intro q
  rw [List.getElem?_set]
  by_cases hq : k = q
  · subst hq
    rw [if_pos rfl, if_pos (by simpa [moQ] using hk)]
    simp [moQ, List.getElem?_map, h]
  · rw [if_neg hq]
    simp only [moQ, List.getElem?_map]
    cases hm : mtg[q]? with
    | none => rfl
    | some u =>
      simp only [Option.map_some]
      by_cases h0 : u.1 = 0
      · rw [if_pos h0, if_pos h0]
      · rw [if_neg h0, if_neg h0]
        by_cases h1 : u.1 = 1
        · rw [if_pos h1, if_pos h1]
        · rw [if_neg h1, if_neg h1]
          have h2 := (mtg_2 u (List.mem_of_getElem? hm) h0 h1).1
          have h3 : u.2 ≠ j := fun z => by
            refine hq (mtg_u k hk q (List.getElem?_eq_some_iff.mp hm).1 ?_)
            rw [h, hm]
            exact congrArg some (Prod.ext h2.symm z.symm)
          by_cases h4 : u.2 < j
          · rw [if_pos h4, if_pos (by omega)]
          · rw [if_neg h4, if_neg (by omega)]
theorem mq_up {g : xG} {mo i j k : Nat} (h : mtg[k]? = some (2, j)) : xUp (mqE g mo i j) mo (.inr (7, (moQ mo j).set k (.ref (mo + 1 + j)))) = mqE g mo i (j + 1) := by
  rw [mq_set h]
  refine Prod.ext rfl (funext fun q => ?_)
  show (if q = mo then some (.inr (7, moQ mo (j + 1))) else if q = mo then some (.inr (7, moQ mo j)) else if mo < q ∧ q < mo + 1 + i then moA g ms0 (q - mo - 1) else none) = (if q = mo then some (.inr (7, moQ mo (j + 1))) else if mo < q ∧ q < mo + 1 + i then moA g ms0 (q - mo - 1) else none)
  by_cases h2 : q = mo
  · rw [if_pos h2, if_pos h2]
  · rw [if_neg h2, if_neg h2, if_neg h2]
theorem mq_fin {g : xG} {mo : Nat} : mqE g mo 38 38 = moE g mo (mo + 39) ms0 := by
  have hF : moQ mo 38 = moF mo ms0 := by
    unfold moQ moF
    refine List.map_congr_left fun t ht => ?_
    unfold moV
    by_cases h0 : t.1 = 0
    · rw [if_pos h0, if_pos h0]; rfl
    · rw [if_neg h0, if_neg h0]
      by_cases h1 : t.1 = 1
      · rw [if_pos h1, if_pos h1]; rfl
      · rw [if_neg h1, if_neg h1, if_pos (mtg_2 t ht h0 h1).2]
  refine Prod.ext rfl (funext fun q => ?_)
  show (if q = mo then some (.inr (7, moQ mo 38)) else if mo < q ∧ q < mo + 1 + 38 then moA g ms0 (q - mo - 1) else none) = (if q = mo then some (.inr (7, moF mo ms0)) else if mo < q then moA g ms0 (q - mo - 1) else none)
  rw [hF]
  by_cases h2 : q = mo
  · rw [if_pos h2, if_pos h2]
  · rw [if_neg h2, if_neg h2]
    by_cases h3 : mo < q
    · rw [if_pos h3]
      by_cases h4 : q < mo + 1 + 38
      · rw [if_pos ⟨h3, h4⟩]
      · rw [if_neg (by omega)]
        have h5 : mar[q - mo - 1]? = none := List.getElem?_eq_none (by show 38 ≤ _; omega)
        simp [moA, h5]
    · rw [if_neg h3, if_neg (by omega)]
section MQ
variable {M : xM} {rm : Room} {l : Launch} {g : xG} {x0 : xV} {o1 : Option Value ⊕ String} {x1 : xV} {kc ks : Nat} {mo i j : Nat} {pc : Nat} {lv : List (Nat × Value)} {st : List Value}
theorem mq_newI {n : Int32} {aty : ArrayType} (N : Nat) (hm : mar[i]? = some (0, N)) (harr : Cond.arrayClass .int ∈ wt) (hn : ¬ n < 0) (hN : n.toNatClampNeg = N) (hb : N * componentBytes .int ≤ 536870912) (hf : kc + 1 ≤ rm.cells ∧ ks + N ≤ rm.slots) (hty : newarray.typeOf aty = .int) (hd : decode M.2.1 pc = .ok (.newarray aty, 2))
    (kk : AW M rm l g x0 o1 x1 (kc + 1) (ks + N) (mqE g mo (i + 1) j) (pc + 2) lv (.ref (mo + 1 + i) :: st)) : AW M rm l g x0 o1 x1 kc ks (mqE g mo i j) pc lv (.int n :: st) := by
  refine aw_newa 0 (a0 := (N, .inl (fun _ => 0))) hty (Or.inl rfl) rfl harr rfl hn hN hb hf hd ?_
  have e := mq_new (g := g) (mo := mo) (i := i) (j := j) (moA_i (g := g) (S := ms0) hm)
  have e2 : xNew (mqE g mo i j) (.inl (g.2.1, N, .inl (fun _ => 0))) = mqE g mo (i + 1) j := e
  rw [e2]
  exact kk
theorem mq_newJ {n : Int32} {aty : ArrayType} (N : Nat) (hm : mar[i]? = some (1, N)) (harr : Cond.arrayClass .long ∈ wt) (hn : ¬ n < 0) (hN : n.toNatClampNeg = N) (hb : N * componentBytes .long ≤ 536870912) (hf : kc + 1 ≤ rm.cells ∧ ks + N ≤ rm.slots) (hty : newarray.typeOf aty = .long) (hd : decode M.2.1 pc = .ok (.newarray aty, 2))
    (kk : AW M rm l g x0 o1 x1 (kc + 1) (ks + N) (mqE g mo (i + 1) j) (pc + 2) lv (.ref (mo + 1 + i) :: st)) : AW M rm l g x0 o1 x1 kc ks (mqE g mo i j) pc lv (.int n :: st) := by
  refine aw_newa 1 (a0 := (N, .inr (.inl (fun _ => 0)))) hty (Or.inr (Or.inl rfl)) rfl harr rfl hn hN hb hf hd ?_
  have e := mq_new (g := g) (mo := mo) (i := i) (j := j) (moA_l (g := g) (S := ms0) hm)
  have e2 : xNew (mqE g mo i j) (.inl (g.2.2.1, N, .inr (.inl (fun _ => 0)))) = mqE g mo (i + 1) j := e
  rw [e2]
  exact kk
theorem mq_newZ {n : Int32} {aty : ArrayType} (N : Nat) (hm : mar[i]? = some (2, N)) (harr : Cond.arrayClass .boolean ∈ wt) (hn : ¬ n < 0) (hN : n.toNatClampNeg = N) (hb : N * componentBytes .boolean ≤ 536870912) (hf : kc + 1 ≤ rm.cells ∧ ks + N ≤ rm.slots) (hty : newarray.typeOf aty = .boolean) (hd : decode M.2.1 pc = .ok (.newarray aty, 2))
    (kk : AW M rm l g x0 o1 x1 (kc + 1) (ks + N) (mqE g mo (i + 1) j) (pc + 2) lv (.ref (mo + 1 + i) :: st)) : AW M rm l g x0 o1 x1 kc ks (mqE g mo i j) pc lv (.int n :: st) := by
  refine aw_newa 2 (a0 := (N, .inl (fun _ => 0))) hty (Or.inr (Or.inr rfl)) rfl harr rfl hn hN hb hf hd ?_
  have e := mq_new (g := g) (mo := mo) (i := i) (j := j) (moA_z (g := g) (S := ms0) hm)
  have e2 : xNew (mqE g mo i j) (.inl (g.2.2.2.1, N, .inl (fun _ => 0))) = mqE g mo (i + 1) j := e
  rw [e2]
  exact kk
theorem mq_put {k index : Nat} {ty : FieldType} (ht : mtg[k]? = some (2, j)) (hty : tyX9 k = .array ty) (hl0 : Cond.fieldLink M.1 index (TX9 k).1 (TX9 k).2.1 (TX9 k).2.2.1 ∈ wt) (hfin : (TX9 k).2.2.2 = true) (hnm0 : M.2.2.2.2 = "<init>") (hdc : (TX9 k).1 = M.1) (hd : decode M.2.1 pc = .ok (.putfield index, 3))
    (kk : AW M rm l g x0 o1 x1 kc ks (mqE g mo i (j + 1)) (pc + 3) lv st) : AW M rm l g x0 o1 x1 kc ks (mqE g mo i j) pc lv (.ref (mo + 1 + j) :: .ref mo :: st) := by
  have hk := (List.getElem?_eq_some_iff.mp ht).1
  refine aw_putfF mq_ob (xtX9.put (rfl : vwCl[7]? = some (RX9, TX9, 48)) hk hty rfl rfl (by simpa [moQ] using hk)) hl0 hfin hnm0 hdc hd ?_
  rw [mq_up ht]
  exact kk
end MQ
abbrev MX9_init : xM := (RX9, cX9_init, 1, none, "<init>")
abbrev rmX9_init : Room := { frames := 1, cells := 38, slots := 13434, locals := 20 }
theorem ciX9_init : Cond.code yX9_init cX9_init 1 none ∈ wt ∧ Cond.initialized yX9_init.cls ∈ wt ∧ (yX9_init.cls ≠ "java/lang/invoke/MethodHandle" ∧ yX9_init.cls ≠ "java/lang/invoke/VarHandle" ∧ (parseMethodDescriptor yX9_init.desc).map (fun d => d.parameters.length) = some 0) := ⟨wl4 (i := 96) rfl rfl, wl1 (i := 4) rfl rfl, by decide +kernel, by decide +kernel, by decide +kernel⟩
set_option maxHeartbeats 4000000 in
set_option maxRecDepth 100000 in
theorem ctX9_init {l : Launch} {g : xG} (hl : l.stackTraces = false) (mo : Nat) : CT yX9_init MX9_init rmX9_init l g [.ref mo] (mqE g mo 0 0) (.inl none) (moE g mo (mo + 39) ms0) := by
  refine CT.of (lv0 := [(0, .ref mo)]) (by decide +kernel) rfl rfl (by simp [lg_sl, cat_q, cat_i, cat_l, cat_r]) (by simp [lv_args, cat_q, cat_i, cat_l, cat_r]) hl ?_
  refine aw_aload_n 0 dX9_init_0 rfl ?_
  refine aw_objInit (r := some mo) rfl (wl4 (i := 97) rfl rfl) dX9_init_1 (Nat.le_of_ble_eq_true rfl) ⟨Nat.le_of_ble_eq_true rfl, Nat.le_of_ble_eq_true rfl⟩ (wl1 (i := 25) rfl rfl) (wl1 (i := 26) rfl rfl) ?_
  refine aw_aload_n 0 dX9_init_4 rfl ?_
  refine aw_bipush (8 : Int32) dX9_init_5 (by decide) ?_
  refine mq_newI 8 rfl (wl1 (i := 55) rfl rfl) (by decide) (by decide) (by decide) ⟨Nat.le_of_ble_eq_true rfl, Nat.le_of_ble_eq_true rfl⟩ rfl dX9_init_7 ?_
  refine mq_put (k := 1) rfl rfl (wl4 (i := 99) rfl rfl) rfl rfl rfl dX9_init_9 ?_
  refine aw_aload_n 0 dX9_init_12 rfl ?_
  refine aw_bipush (8 : Int32) dX9_init_13 (by decide) ?_
  refine mq_newI 8 rfl (wl1 (i := 55) rfl rfl) (by decide) (by decide) (by decide) ⟨Nat.le_of_ble_eq_true rfl, Nat.le_of_ble_eq_true rfl⟩ rfl dX9_init_15 ?_
  refine mq_put (k := 2) rfl rfl (wl4 (i := 100) rfl rfl) rfl rfl rfl dX9_init_17 ?_
  refine aw_aload_n 0 dX9_init_20 rfl ?_
  refine aw_bipush (8 : Int32) dX9_init_21 (by decide) ?_
  refine mq_newI 8 rfl (wl1 (i := 55) rfl rfl) (by decide) (by decide) (by decide) ⟨Nat.le_of_ble_eq_true rfl, Nat.le_of_ble_eq_true rfl⟩ rfl dX9_init_23 ?_
  refine mq_put (k := 3) rfl rfl (wl4 (i := 101) rfl rfl) rfl rfl rfl dX9_init_25 ?_
  refine aw_aload_n 0 dX9_init_28 rfl ?_
  refine aw_bipush (16 : Int32) dX9_init_29 (by decide) ?_
  refine mq_newI 16 rfl (wl1 (i := 55) rfl rfl) (by decide) (by decide) (by decide) ⟨Nat.le_of_ble_eq_true rfl, Nat.le_of_ble_eq_true rfl⟩ rfl dX9_init_31 ?_
  refine mq_put (k := 5) rfl rfl (wl4 (i := 103) rfl rfl) rfl rfl rfl dX9_init_33 ?_
  refine aw_aload_n 0 dX9_init_36 rfl ?_
  refine aw_bipush (16 : Int32) dX9_init_37 (by decide) ?_
  refine mq_newI 16 rfl (wl1 (i := 55) rfl rfl) (by decide) (by decide) (by decide) ⟨Nat.le_of_ble_eq_true rfl, Nat.le_of_ble_eq_true rfl⟩ rfl dX9_init_39 ?_
  refine mq_put (k := 6) rfl rfl (wl4 (i := 104) rfl rfl) rfl rfl rfl dX9_init_41 ?_
  refine aw_aload_n 0 dX9_init_44 rfl ?_
  refine aw_bipush (16 : Int32) dX9_init_45 (by decide) ?_
  refine mq_newI 16 rfl (wl1 (i := 55) rfl rfl) (by decide) (by decide) (by decide) ⟨Nat.le_of_ble_eq_true rfl, Nat.le_of_ble_eq_true rfl⟩ rfl dX9_init_47 ?_
  refine mq_put (k := 7) rfl rfl (wl4 (i := 105) rfl rfl) rfl rfl rfl dX9_init_49 ?_
  refine aw_aload_n 0 dX9_init_52 rfl ?_
  refine aw_bipush (16 : Int32) dX9_init_53 (by decide) ?_
  refine mq_newI 16 rfl (wl1 (i := 55) rfl rfl) (by decide) (by decide) (by decide) ⟨Nat.le_of_ble_eq_true rfl, Nat.le_of_ble_eq_true rfl⟩ rfl dX9_init_55 ?_
  refine mq_put (k := 8) rfl rfl (wl4 (i := 106) rfl rfl) rfl rfl rfl dX9_init_57 ?_
  refine aw_aload_n 0 dX9_init_60 rfl ?_
  refine aw_bipush (16 : Int32) dX9_init_61 (by decide) ?_
  refine mq_newI 16 rfl (wl1 (i := 55) rfl rfl) (by decide) (by decide) (by decide) ⟨Nat.le_of_ble_eq_true rfl, Nat.le_of_ble_eq_true rfl⟩ rfl dX9_init_63 ?_
  refine mq_put (k := 9) rfl rfl (wl4 (i := 107) rfl rfl) rfl rfl rfl dX9_init_65 ?_
  refine aw_aload_n 0 dX9_init_68 rfl ?_
  refine aw_bipush (16 : Int32) dX9_init_69 (by decide) ?_
  refine mq_newI 16 rfl (wl1 (i := 55) rfl rfl) (by decide) (by decide) (by decide) ⟨Nat.le_of_ble_eq_true rfl, Nat.le_of_ble_eq_true rfl⟩ rfl dX9_init_71 ?_
  refine mq_put (k := 10) rfl rfl (wl4 (i := 108) rfl rfl) rfl rfl rfl dX9_init_73 ?_
  refine aw_aload_n 0 dX9_init_76 rfl ?_
  refine aw_bipush (16 : Int32) dX9_init_77 (by decide) ?_
  refine mq_newZ 16 rfl (wl5 (i := 3) rfl rfl) (by decide) (by decide) (by decide) ⟨Nat.le_of_ble_eq_true rfl, Nat.le_of_ble_eq_true rfl⟩ rfl dX9_init_79 ?_
  refine mq_put (k := 11) rfl rfl (wl4 (i := 109) rfl rfl) rfl rfl rfl dX9_init_81 ?_
  refine aw_aload_n 0 dX9_init_84 rfl ?_
  refine aw_bipush (16 : Int32) dX9_init_85 (by decide) ?_
  refine mq_newI 16 rfl (wl1 (i := 55) rfl rfl) (by decide) (by decide) (by decide) ⟨Nat.le_of_ble_eq_true rfl, Nat.le_of_ble_eq_true rfl⟩ rfl dX9_init_87 ?_
  refine mq_put (k := 12) rfl rfl (wl4 (i := 110) rfl rfl) rfl rfl rfl dX9_init_89 ?_
  refine aw_aload_n 0 dX9_init_92 rfl ?_
  refine aw_bipush (16 : Int32) dX9_init_93 (by decide) ?_
  refine mq_newI 16 rfl (wl1 (i := 55) rfl rfl) (by decide) (by decide) (by decide) ⟨Nat.le_of_ble_eq_true rfl, Nat.le_of_ble_eq_true rfl⟩ rfl dX9_init_95 ?_
  refine mq_put (k := 13) rfl rfl (wl4 (i := 111) rfl rfl) rfl rfl rfl dX9_init_97 ?_
  refine aw_aload_n 0 dX9_init_100 rfl ?_
  refine aw_bipush (16 : Int32) dX9_init_101 (by decide) ?_
  refine mq_newI 16 rfl (wl1 (i := 55) rfl rfl) (by decide) (by decide) (by decide) ⟨Nat.le_of_ble_eq_true rfl, Nat.le_of_ble_eq_true rfl⟩ rfl dX9_init_103 ?_
  refine mq_put (k := 14) rfl rfl (wl4 (i := 112) rfl rfl) rfl rfl rfl dX9_init_105 ?_
  refine aw_aload_n 0 dX9_init_108 rfl ?_
  refine aw_bipush (16 : Int32) dX9_init_109 (by decide) ?_
  refine mq_newI 16 rfl (wl1 (i := 55) rfl rfl) (by decide) (by decide) (by decide) ⟨Nat.le_of_ble_eq_true rfl, Nat.le_of_ble_eq_true rfl⟩ rfl dX9_init_111 ?_
  refine mq_put (k := 15) rfl rfl (wl4 (i := 113) rfl rfl) rfl rfl rfl dX9_init_113 ?_
  refine aw_aload_n 0 dX9_init_116 rfl ?_
  refine aw_bipush (32 : Int32) dX9_init_117 (by decide) ?_
  refine mq_newI 32 rfl (wl1 (i := 55) rfl rfl) (by decide) (by decide) (by decide) ⟨Nat.le_of_ble_eq_true rfl, Nat.le_of_ble_eq_true rfl⟩ rfl dX9_init_119 ?_
  refine mq_put (k := 16) rfl rfl (wl4 (i := 114) rfl rfl) rfl rfl rfl dX9_init_121 ?_
  refine aw_aload_n 0 dX9_init_124 rfl ?_
  refine aw_bipush (32 : Int32) dX9_init_125 (by decide) ?_
  refine mq_newI 32 rfl (wl1 (i := 55) rfl rfl) (by decide) (by decide) (by decide) ⟨Nat.le_of_ble_eq_true rfl, Nat.le_of_ble_eq_true rfl⟩ rfl dX9_init_127 ?_
  refine mq_put (k := 17) rfl rfl (wl4 (i := 115) rfl rfl) rfl rfl rfl dX9_init_129 ?_
  refine aw_aload_n 0 dX9_init_132 rfl ?_
  refine aw_bipush (16 : Int32) dX9_init_133 (by decide) ?_
  refine mq_newI 16 rfl (wl1 (i := 55) rfl rfl) (by decide) (by decide) (by decide) ⟨Nat.le_of_ble_eq_true rfl, Nat.le_of_ble_eq_true rfl⟩ rfl dX9_init_135 ?_
  refine mq_put (k := 18) rfl rfl (wl4 (i := 116) rfl rfl) rfl rfl rfl dX9_init_137 ?_
  refine aw_aload_n 0 dX9_init_140 rfl ?_
  refine aw_bipush (16 : Int32) dX9_init_141 (by decide) ?_
  refine mq_newI 16 rfl (wl1 (i := 55) rfl rfl) (by decide) (by decide) (by decide) ⟨Nat.le_of_ble_eq_true rfl, Nat.le_of_ble_eq_true rfl⟩ rfl dX9_init_143 ?_
  refine mq_put (k := 20) rfl rfl (wl4 (i := 118) rfl rfl) rfl rfl rfl dX9_init_145 ?_
  refine aw_aload_n 0 dX9_init_148 rfl ?_
  refine aw_sipush (4096 : Int32) dX9_init_149 (by decide) ?_
  refine mq_newJ 4096 rfl (wl5 (i := 4) rfl rfl) (by decide) (by decide) (by decide) ⟨Nat.le_of_ble_eq_true rfl, Nat.le_of_ble_eq_true rfl⟩ rfl dX9_init_152 ?_
  refine mq_put (k := 22) rfl rfl (wl4 (i := 120) rfl rfl) rfl rfl rfl dX9_init_154 ?_
  refine aw_aload_n 0 dX9_init_157 rfl ?_
  refine aw_sipush (4096 : Int32) dX9_init_158 (by decide) ?_
  refine mq_newJ 4096 rfl (wl5 (i := 4) rfl rfl) (by decide) (by decide) (by decide) ⟨Nat.le_of_ble_eq_true rfl, Nat.le_of_ble_eq_true rfl⟩ rfl dX9_init_161 ?_
  refine mq_put (k := 23) rfl rfl (wl4 (i := 121) rfl rfl) rfl rfl rfl dX9_init_163 ?_
  refine aw_aload_n 0 dX9_init_166 rfl ?_
  refine aw_sipush (4096 : Int32) dX9_init_167 (by decide) ?_
  refine mq_newI 4096 rfl (wl1 (i := 55) rfl rfl) (by decide) (by decide) (by decide) ⟨Nat.le_of_ble_eq_true rfl, Nat.le_of_ble_eq_true rfl⟩ rfl dX9_init_170 ?_
  refine mq_put (k := 24) rfl rfl (wl4 (i := 122) rfl rfl) rfl rfl rfl dX9_init_172 ?_
  refine aw_aload_n 0 dX9_init_175 rfl ?_
  refine aw_bipush (10 : Int32) dX9_init_176 (by decide) ?_
  refine mq_newJ 10 rfl (wl5 (i := 4) rfl rfl) (by decide) (by decide) (by decide) ⟨Nat.le_of_ble_eq_true rfl, Nat.le_of_ble_eq_true rfl⟩ rfl dX9_init_178 ?_
  refine mq_put (k := 29) rfl rfl (wl4 (i := 127) rfl rfl) rfl rfl rfl dX9_init_180 ?_
  refine aw_aload_n 0 dX9_init_183 rfl ?_
  refine aw_bipush (10 : Int32) dX9_init_184 (by decide) ?_
  refine mq_newJ 10 rfl (wl5 (i := 4) rfl rfl) (by decide) (by decide) (by decide) ⟨Nat.le_of_ble_eq_true rfl, Nat.le_of_ble_eq_true rfl⟩ rfl dX9_init_186 ?_
  refine mq_put (k := 30) rfl rfl (wl4 (i := 128) rfl rfl) rfl rfl rfl dX9_init_188 ?_
  refine aw_aload_n 0 dX9_init_191 rfl ?_
  refine aw_bipush (10 : Int32) dX9_init_192 (by decide) ?_
  refine mq_newJ 10 rfl (wl5 (i := 4) rfl rfl) (by decide) (by decide) (by decide) ⟨Nat.le_of_ble_eq_true rfl, Nat.le_of_ble_eq_true rfl⟩ rfl dX9_init_194 ?_
  refine mq_put (k := 31) rfl rfl (wl4 (i := 129) rfl rfl) rfl rfl rfl dX9_init_196 ?_
  refine aw_aload_n 0 dX9_init_199 rfl ?_
  refine aw_bipush (10 : Int32) dX9_init_200 (by decide) ?_
  refine mq_newJ 10 rfl (wl5 (i := 4) rfl rfl) (by decide) (by decide) (by decide) ⟨Nat.le_of_ble_eq_true rfl, Nat.le_of_ble_eq_true rfl⟩ rfl dX9_init_202 ?_
  refine mq_put (k := 32) rfl rfl (wl4 (i := 130) rfl rfl) rfl rfl rfl dX9_init_204 ?_
  refine aw_aload_n 0 dX9_init_207 rfl ?_
  refine aw_bipush (10 : Int32) dX9_init_208 (by decide) ?_
  refine mq_newJ 10 rfl (wl5 (i := 4) rfl rfl) (by decide) (by decide) (by decide) ⟨Nat.le_of_ble_eq_true rfl, Nat.le_of_ble_eq_true rfl⟩ rfl dX9_init_210 ?_
  refine mq_put (k := 33) rfl rfl (wl4 (i := 131) rfl rfl) rfl rfl rfl dX9_init_212 ?_
  refine aw_aload_n 0 dX9_init_215 rfl ?_
  refine aw_bipush (10 : Int32) dX9_init_216 (by decide) ?_
  refine mq_newJ 10 rfl (wl5 (i := 4) rfl rfl) (by decide) (by decide) (by decide) ⟨Nat.le_of_ble_eq_true rfl, Nat.le_of_ble_eq_true rfl⟩ rfl dX9_init_218 ?_
  refine mq_put (k := 34) rfl rfl (wl4 (i := 132) rfl rfl) rfl rfl rfl dX9_init_220 ?_
  refine aw_aload_n 0 dX9_init_223 rfl ?_
  refine aw_bipush (10 : Int32) dX9_init_224 (by decide) ?_
  refine mq_newZ 10 rfl (wl5 (i := 3) rfl rfl) (by decide) (by decide) (by decide) ⟨Nat.le_of_ble_eq_true rfl, Nat.le_of_ble_eq_true rfl⟩ rfl dX9_init_226 ?_
  refine mq_put (k := 35) rfl rfl (wl4 (i := 133) rfl rfl) rfl rfl rfl dX9_init_228 ?_
  refine aw_aload_n 0 dX9_init_231 rfl ?_
  refine aw_bipush (60 : Int32) dX9_init_232 (by decide) ?_
  refine mq_newI 60 rfl (wl1 (i := 55) rfl rfl) (by decide) (by decide) (by decide) ⟨Nat.le_of_ble_eq_true rfl, Nat.le_of_ble_eq_true rfl⟩ rfl dX9_init_234 ?_
  refine mq_put (k := 37) rfl rfl (wl4 (i := 135) rfl rfl) rfl rfl rfl dX9_init_236 ?_
  refine aw_aload_n 0 dX9_init_239 rfl ?_
  refine aw_bipush (60 : Int32) dX9_init_240 (by decide) ?_
  refine mq_newI 60 rfl (wl1 (i := 55) rfl rfl) (by decide) (by decide) (by decide) ⟨Nat.le_of_ble_eq_true rfl, Nat.le_of_ble_eq_true rfl⟩ rfl dX9_init_242 ?_
  refine mq_put (k := 38) rfl rfl (wl4 (i := 136) rfl rfl) rfl rfl rfl dX9_init_244 ?_
  refine aw_aload_n 0 dX9_init_247 rfl ?_
  refine aw_bipush (60 : Int32) dX9_init_248 (by decide) ?_
  refine mq_newI 60 rfl (wl1 (i := 55) rfl rfl) (by decide) (by decide) (by decide) ⟨Nat.le_of_ble_eq_true rfl, Nat.le_of_ble_eq_true rfl⟩ rfl dX9_init_250 ?_
  refine mq_put (k := 39) rfl rfl (wl4 (i := 137) rfl rfl) rfl rfl rfl dX9_init_252 ?_
  refine aw_aload_n 0 dX9_init_255 rfl ?_
  refine aw_bipush (60 : Int32) dX9_init_256 (by decide) ?_
  refine mq_newI 60 rfl (wl1 (i := 55) rfl rfl) (by decide) (by decide) (by decide) ⟨Nat.le_of_ble_eq_true rfl, Nat.le_of_ble_eq_true rfl⟩ rfl dX9_init_258 ?_
  refine mq_put (k := 40) rfl rfl (wl4 (i := 138) rfl rfl) rfl rfl rfl dX9_init_260 ?_
  refine aw_aload_n 0 dX9_init_263 rfl ?_
  refine aw_bipush (60 : Int32) dX9_init_264 (by decide) ?_
  refine mq_newI 60 rfl (wl1 (i := 55) rfl rfl) (by decide) (by decide) (by decide) ⟨Nat.le_of_ble_eq_true rfl, Nat.le_of_ble_eq_true rfl⟩ rfl dX9_init_266 ?_
  refine mq_put (k := 41) rfl rfl (wl4 (i := 139) rfl rfl) rfl rfl rfl dX9_init_268 ?_
  refine aw_aload_n 0 dX9_init_271 rfl ?_
  refine aw_bipush (60 : Int32) dX9_init_272 (by decide) ?_
  refine mq_newI 60 rfl (wl1 (i := 55) rfl rfl) (by decide) (by decide) (by decide) ⟨Nat.le_of_ble_eq_true rfl, Nat.le_of_ble_eq_true rfl⟩ rfl dX9_init_274 ?_
  refine mq_put (k := 42) rfl rfl (wl4 (i := 140) rfl rfl) rfl rfl rfl dX9_init_276 ?_
  refine aw_aload_n 0 dX9_init_279 rfl ?_
  refine aw_bipush (60 : Int32) dX9_init_280 (by decide) ?_
  refine mq_newJ 60 rfl (wl5 (i := 4) rfl rfl) (by decide) (by decide) (by decide) ⟨Nat.le_of_ble_eq_true rfl, Nat.le_of_ble_eq_true rfl⟩ rfl dX9_init_282 ?_
  refine mq_put (k := 43) rfl rfl (wl4 (i := 141) rfl rfl) rfl rfl rfl dX9_init_284 ?_
  refine aw_aload_n 0 dX9_init_287 rfl ?_
  refine aw_bipush (60 : Int32) dX9_init_288 (by decide) ?_
  refine mq_newJ 60 rfl (wl5 (i := 4) rfl rfl) (by decide) (by decide) (by decide) ⟨Nat.le_of_ble_eq_true rfl, Nat.le_of_ble_eq_true rfl⟩ rfl dX9_init_290 ?_
  refine mq_put (k := 44) rfl rfl (wl4 (i := 142) rfl rfl) rfl rfl rfl dX9_init_292 ?_
  refine aw_aload_n 0 dX9_init_295 rfl ?_
  refine aw_sipush (240 : Int32) dX9_init_296 (by decide) ?_
  refine mq_newI 240 rfl (wl1 (i := 55) rfl rfl) (by decide) (by decide) (by decide) ⟨Nat.le_of_ble_eq_true rfl, Nat.le_of_ble_eq_true rfl⟩ rfl dX9_init_299 ?_
  refine mq_put (k := 45) rfl rfl (wl4 (i := 143) rfl rfl) rfl rfl rfl dX9_init_301 ?_
  refine aw_aload_n 0 dX9_init_304 rfl ?_
  refine aw_bipush (60 : Int32) dX9_init_305 (by decide) ?_
  refine mq_newI 60 rfl (wl1 (i := 55) rfl rfl) (by decide) (by decide) (by decide) ⟨Nat.le_of_ble_eq_true rfl, Nat.le_of_ble_eq_true rfl⟩ rfl dX9_init_307 ?_
  refine mq_put (k := 46) rfl rfl (wl4 (i := 144) rfl rfl) rfl rfl rfl dX9_init_309 ?_
  rw [mq_fin]
  exact aw_vret dX9_init_312 rfl rfl rfl ⟨Nat.le_of_ble_eq_true rfl, Nat.le_of_ble_eq_true rfl⟩
