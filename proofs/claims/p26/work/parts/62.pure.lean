/-! PURE 17: the due pairing and the games that are off, under the relation. -/
section OFF
variable {u mo : Nat} {h : TH} {S : MS} {t c s n G N P : Nat} {gm nd : Nat → Nat} {gl nl : Nat → List BW} {ol : List Nat} {kp : Nat → Bool}
theorem Rel.gM (H : Rel u mo h S t c s n G N P gm nd gl nl ol kp) {i : Nat} (hi : i < G) : GM h S n (gm i) i := (H.2.2.1.2.2.2.2.2 i hi).1
theorem Rel.pm (H : Rel u mo h S t c s n G N P gm nd gl nl ol kp) {i : Nat} (hi : i < G) : PM u h S P (gm i) i (gl i) := (H.2.2.1.2.2.2.2.2 i hi).2
theorem Rel.G16 (H : Rel u mo h S t c s n G N P gm nd gl nl ol kp) : G ≤ 16 := H.2.2.1.1
theorem Rel.cb (H : Rel u mo h S t c s n G N P gm nd gl nl ol kp) : CB h c := H.1.2.2.2.1
theorem GM.k3 {p i : Nat} (H : GM h S n p i) : t_kd h p = 3 := H.2.1.1
theorem Rel.gok (H : Rel u mo h S t c s n G N P gm nd gl nl ol kp) : Gok S ol := fun g hg => by
  have hg2 := (H.2.2.2.1.2.2.2.2.1 g hg).1
  have h1 := H.gM hg2
  obtain ⟨-, ⟨-, -, -, x, y, -, hx, hy, -, hx8, hy8, hxy, -⟩, -, -, -, -, hv, -⟩ := h1
  exact ⟨by have := H.G16; omega, hv, x, y, hx, hy, hx8, hy8, hxy⟩
theorem Rel.st12 (H : Rel u mo h S t c s n G N P gm nd gl nl ol kp) {g : Nat} (hg : g ∈ ol) : St12 S g := fun _ => by
  obtain ⟨h1, h2⟩ := H.2.2.2.1.2.2.2.2.1 g hg
  obtain ⟨-, -, -, -, -, ⟨j, hj, e⟩, -⟩ := H.gM h1
  rw [e] at h2 ⊢
  have : j = 0 ∨ j = 1 ∨ j = 2 := by omega
  rcases this with rfl | rfl | rfl
  · exact absurd rfl h2
  · exact Or.inl rfl
  · exact Or.inr rfl
theorem Rel.mg (H : Rel u mo h S t c s n G N P gm nd gl nl ol kp) {g : Nat} (hg : g ∈ ol) : MG h S (gm g) g ∧ St12 S g := ⟨(H.gM (H.2.2.2.1.2.2.2.2.1 g hg).1).2.1, H.st12 hg⟩
theorem take_filter {l : List Nat} {k : Nat} {f : Nat → Bool} {j g : Nat} (h : ((l.take k).filter f)[j]? = some g) : (l.filter f)[j]? = some g := by
  have e : l.filter f = (l.take k).filter f ++ (l.drop k).filter f := by rw [← List.filter_append, List.take_append_drop]
  rw [e, List.getElem?_append_left (by exact (List.getElem?_eq_some_iff.mp h).1)]
  exact h
theorem GM.on {h : TH} {S : MS} {n p i : Nat} (H : GM h S n p i) (hn : n ≤ 8) : ∃ x y, m_I S 5 i = nI x ∧ m_I S 6 i = nI y ∧ x < n ∧ y < n := by
  obtain ⟨-, ⟨-, -, -, x, y, -, hx, hy, -, hx8, hy8, hxy, -, -, h01⟩, ⟨a, b, ha, hb, -, e3, e4⟩, f0, f1, -⟩ := H
  rw [e3] at f0
  rw [e4] at f1
  refine ⟨x, y, hx, hy, ?_⟩
  rcases h01 with ⟨q0, q1⟩ | ⟨q0, q1⟩
  · have := (nI_eq (by omega) (by omega)).mp (f0.symm.trans q0)
    have := (nI_eq (by omega) (by omega)).mp (f1.symm.trans q1)
    omega
  · have := (nI_eq (by omega) (by omega)).mp (f0.symm.trans q0)
    have := (nI_eq (by omega) (by omega)).mp (f1.symm.trans q1)
    omega
theorem Rel.gon (H : Rel u mo h S t c s n G N P gm nd gl nl ol kp) : Gon S n ol := fun g hg => (H.gM (H.2.2.2.1.2.2.2.2.1 g hg).1).on H.2.1.1
/-- the due pairing of a game -/
def dv (S : MS) (ol : List Nat) (i : Nat) : Int32 := pairV S (m_I S 3 i).toNatClampNeg (m_I S 4 i).toNatClampNeg (ol.take (m_I S 10 i).toNatClampNeg)
def hv (S : MS) (i : Nat) : Int32 := (100 : Int32) * m_I S 5 i + (10 : Int32) * m_I S 6 i + m_I S 7 i
theorem due_X2 (H : Rel u mo h S t c s n G N P gm nd gl nl ol kp) {i : Nat} (hi : i < G) : fX2_duePairing h c (some (gm i)) = some (dv S ol i) := by
  have hG := H.gM hi
  obtain ⟨-, hMG, ⟨a, b, ha, hb, hab, e3, e4⟩, f0, f1, -⟩ := hG
  obtain ⟨et, he1, he2, he3⟩ := H.2.2.2.1.2.2.2.2.2.2.2.2.2.1 i hi
  have hn := H.2.1.1
  have hr1 := H.2.1.2.2.2
  have hol := H.2.2.2.1.2.1
  unfold fX2_duePairing
  have hlen : ((ol.take et).filter kp).length ≤ 16 := Nat.le_trans (List.length_filter_le _ _) (by rw [List.length_take]; omega)
  rw [Option.bind_some, if_pos hMG.1, if_pos H.cb.1, f0, f1, e3, e4, he3]
  rw [pairing_X2 (S := S) (gm := gm) H.cb (by omega) (by omega) hlen (fun j g hj => H.2.2.2.1.2.2.2.2.2.2.2.1 j g (take_filter hj)) (fun g hg => H.mg (List.mem_of_mem_take (List.mem_filter.mp hg).1)) (hr1 a ha).2 (hr1 a ha).1 (hr1 b hb).2 (hr1 b hb).1]
  unfold dv
  rw [e3, e4, he2, clp (by omega), clp (by omega), clp (by omega)]
  have hf : ∀ x, stdF S x ((ol.take et).filter kp) = stdF S x (ol.take et) := fun x => gfold_filter _ _ (fun g hg hk => H.2.2.2.1.2.2.2.2.2.2.2.2.1 g (List.mem_of_mem_take hg) hk)
  unfold pairV
  rw [hf, hf]; rfl
theorem Eq12.sq {S S2 : MS} {l : List Nat} (e : Eq12 S S2) (h1 : Rky S n l) (h2 : Rky S2 n l) : Sq n S S2 := by
  refine ⟨fun k _ _ _ => by rw [e.1], fun a p q _ _ => e.2.2.1 a p q, fun a ha => ?_, fun a _ => by rw [e.2.2.2]⟩
  have q : (m_I S2 1 a, m_I S2 2 a) = (m_I S 1 a, m_I S 2 a) := by rw [h2 a ha, h1 a ha, stdF_12 e]
  exact ⟨congrArg Prod.fst q, congrArg Prod.snd q⟩
theorem Rel.rky (H : Rel u mo h S t c s n G N P gm nd gl nl ol kp) : Rky S n ol := H.2.2.2.1.2.2.2.2.2.2.2.2.2.2
theorem due_X9 (H : Rel u mo h S t c s n G N P gm nd gl nl ol kp) {i : Nat} (hi : i < G) : ∃ S2, fX9_dueOf S (nI i) = some (dv S ol i, S2) ∧ Sq n S S2 ∧ m_i S2 47 = m_i S 47 := by
  obtain ⟨-, -, ⟨a, b, ha, hb, hab, e3, e4⟩, -⟩ := H.gM hi
  obtain ⟨et, he1, he2, -⟩ := H.2.2.2.1.2.2.2.2.2.2.2.2.2.1 i hi
  obtain ⟨S2, k1, k2, k3⟩ := dueOf_X9 (l := ol) H.2.1.1 H.2.2.2.1.2.1 H.2.1.2.2.1 H.gok H.2.2.2.1.1 (show i < 16 by have := H.G16; omega) ha hb (fun b hb => (H.2.1.2.2.2 b hb).2) e3 e4 he2 he1 H.2.2.2.1.2.2.1 H.gon H.rky.z
  refine ⟨S2, ?_, k2.sq H.rky k3, by rw [k2.1]⟩
  rw [k1]
  unfold dv
  rw [e3, e4, he2, clp (by have := H.2.1.1; omega), clp (by have := H.2.1.1; omega), clp (by have := H.2.2.2.1.2.1; omega)]
/-- whether a game is off -/
def ofb (S : MS) (ol : List Nat) (i : Nat) : Bool := decide (m_I S 9 i = 0) && !decide (dv S ol i = hv S i)
theorem hv_X2 (H : Rel u mo h S t c s n G N P gm nd gl nl ol kp) {i : Nat} (hi : i < G) : t_I h (gm i) 2 = hv S i := by
  obtain ⟨-, ⟨-, -, -, x, y, hc, hx, hy, hh, hx8, hy8, -, hc4, h2, -⟩, -⟩ := H.gM hi
  unfold hv
  rw [h2, hx, hy, hh, i32_100, i32_10, pk_mul, pk_mul, nI_add, nI_add]
theorem isOff_X2 (H : Rel u mo h S t c s n G N P gm nd gl nl ol kp) {i : Nat} (hi : i < G) : fX2_isOff h c (some (gm i)) = some (ofb S ol i) := by
  have hM := (H.gM hi).2.1
  unfold fX2_isOff ofb
  rw [Option.bind_some, if_pos hM.1, hM.2.1, due_X2 H hi, hv_X2 H hi]
  by_cases h9 : m_I S 9 i = 0
  · rw [if_pos h9, if_pos H.cb.1, Option.bind_some, decide_eq_true h9]
    by_cases e : hv S i = dv S ol i
    · rw [if_pos e, decide_eq_true e.symm]; rfl
    · rw [if_neg e, decide_eq_false (fun z => e z.symm)]; rfl
  · rw [if_neg h9, decide_eq_false h9]; rfl
theorem dv_sq {S2 : MS} (e : Sq n S S2) (i : Nat) : dv S2 ol i = dv S ol i := by
  unfold dv pairV
  rw [e.I' 3 (by omega), e.I' 4 (by omega), e.I' 10 (by omega), stdF_sq e, stdF_sq e]
theorem hv_sq {S2 : MS} (e : Sq n S S2) (i : Nat) : hv S2 i = hv S i := by
  unfold hv; rw [e.I' 5 (by omega), e.I' 6 (by omega), e.I' 7 (by omega)]
theorem ofb_sq {S2 : MS} (e : Sq n S S2) (i : Nat) : ofb S2 ol i = ofb S ol i := by
  unfold ofb; rw [dv_sq e, hv_sq e, e.I' 9 (by omega)]
theorem isOff_X9 (H : Rel u mo h S t c s n G N P gm nd gl nl ol kp) {i : Nat} (hi : i < G) : ∃ S2, fX9_isOff S (nI i) = some (ofb S ol i, S2) ∧ Sq n S S2 ∧ m_i S2 47 = m_i S 47 := by
  have h16 := H.G16
  unfold fX9_isOff
  rw [if_pos (xin_nI (show i < 16 by omega) (by omega)), clp (show i < 2 ^ 31 by omega)]
  by_cases h9 : m_I S 9 i = 0
  · rw [if_pos h9]
    obtain ⟨S2, k1, k2, k3⟩ := due_X9 H hi
    rw [k1, Option.bind_some]
    have e2 : (100 : Int32) * m_I S2 5 i + (10 : Int32) * m_I S2 6 i + m_I S2 7 i = hv S i := hv_sq k2 i
    rw [e2]
    unfold ofb
    rw [decide_eq_true h9]
    by_cases e : dv S ol i = hv S i
    · rw [if_pos e, decide_eq_true e]; exact ⟨S2, rfl, k2, k3⟩
    · rw [if_neg e, decide_eq_false e]; exact ⟨S2, rfl, k2, k3⟩
  · rw [if_neg h9]
    unfold ofb
    rw [decide_eq_false h9]
    exact ⟨S, rfl, Sq.rf, rfl⟩
/-- the games that are off, as a set -/
def ofs (S : MS) (ol : List Nat) : Nat → Int32
  | 0 => 0
  | k + 1 => if ofb S ol k = true then ofs S ol k ||| x_ishl 1 (nI k) else ofs S ol k
theorem ofs_sq {S2 : MS} (e : Sq n S S2) : ∀ k, ofs S2 ol k = ofs S ol k := by
  intro k
  induction k with
  | zero => rfl
  | succ k ih => unfold ofs; rw [ofb_sq e, ih]
theorem off_4 : ∀ (d fu : Nat) (S : MS) (i : Nat), Rel u mo h S t c s n G N P gm nd gl nl ol kp → i + d = G → d < fu → ∃ S2, fX9_off_4 fu S (ofs S ol i) (nI i) = some (ofs S ol G, S2) ∧ Sq n S S2 ∧ m_i S2 47 = m_i S 47 := by
  intro d
  induction d with
  | zero =>
    intro fu S i H hi hf
    obtain ⟨fu, rfl⟩ : ∃ j, fu = j + 1 := ⟨fu - 1, by omega⟩
    have h16 := H.G16
    rw [fX9_off_4, H.2.2.1.2.2.1, if_pos (nI_le (by omega) (by omega)), show i = G by omega]
    exact ⟨S, rfl, Sq.rf, rfl⟩
  | succ d ih =>
    intro fu S i H hi hf
    obtain ⟨fu, rfl⟩ : ∃ j, fu = j + 1 := ⟨fu - 1, by omega⟩
    have h16 := H.G16
    rw [fX9_off_4, H.2.2.1.2.2.1, if_neg (nI_ge (by omega) (by omega))]
    obtain ⟨S1, k1, k2, k3⟩ := isOff_X9 H (show i < G by omega)
    rw [k1, Option.bind_some]
    obtain ⟨S2, m1, m2, m3⟩ := ih fu S1 (i + 1) (H.sq k2) (by omega) (by omega)
    rw [ofs_sq k2, ofs_sq k2, show ofs S ol (i + 1) = (if ofb S ol i = true then ofs S ol i ||| x_ishl 1 (nI i) else ofs S ol i) from rfl] at m1
    refine ⟨S2, ?_, k2.tr m2, m3.trans k3⟩
    unfold fX9_off_28
    rw [nI_1]
    cases hb : ofb S ol i
    · rw [hb] at m1
      rw [if_pos rfl, Int32.or_zero]
      simpa using m1
    · rw [hb] at m1
      rw [if_neg (show ¬ (true = false) by decide)]
      simpa using m1
theorem off_X9 (H : Rel u mo h S t c s n G N P gm nd gl nl ol kp) : ∃ S2, fX9_off S = some (ofs S ol G, S2) ∧ Sq n S S2 ∧ m_i S2 47 = m_i S 47 := by
  obtain ⟨S2, k1, k2⟩ := off_4 G FU S 0 H (by omega) (by have := H.G16; unfold FU; omega)
  exact ⟨S2, k1, k2⟩
theorem offSet_4 (H : Rel u mo h S t c s n G N P gm nd gl nl ol kp) : ∀ (d fu i : Nat), i + d = 16 → d < fu → fX2_offSet_4 fu h c (ofs S ol (min i G)) (nI i) = some (ofs S ol G) := by
  have h16 := H.G16
  have hrow := H.2.2.1.2.2.2.1
  intro d
  induction d with
  | zero =>
    intro fu i hi hf
    obtain ⟨fu, rfl⟩ : ∃ j, fu = j + 1 := ⟨fu - 1, by omega⟩
    rw [fX2_offSet_4, if_pos H.cb.1, H.cb.2.2.1.1, Option.bind_some, if_pos H.cb.2.2.1.2.1, H.cb.2.2.1.2.2, if_pos (nI_le (by omega) (by omega)), show min i G = G by omega]
  | succ d ih =>
    intro fu i hi hf
    obtain ⟨fu, rfl⟩ : ∃ j, fu = j + 1 := ⟨fu - 1, by omega⟩
    rw [fX2_offSet_4, if_pos H.cb.1, H.cb.2.2.1.1, Option.bind_some, if_pos H.cb.2.2.1.2.1, H.cb.2.2.1.2.2, if_neg (nI_ge (by omega) (by omega)), if_pos (xin_nI (by omega) (by omega)), clp (by omega), hrow i (by omega)]
    unfold fX2_offSet_38
    rw [nI_1]
    have := ih fu (i + 1) (by omega) (by omega)
    by_cases hG : i < G
    · rw [show min (i + 1) G = i + 1 by omega, show ofs S ol (i + 1) = (if ofb S ol i = true then ofs S ol i ||| x_ishl 1 (nI i) else ofs S ol i) from rfl] at this
      rw [if_pos hG, if_neg (by simp), isOff_X2 H hG, Option.bind_some, show min i G = i by omega]
      cases hb : ofb S ol i
      · rw [hb] at this
        rw [if_pos rfl]
        simpa using this
      · rw [hb] at this
        rw [if_neg (show ¬ (true = false) by decide)]
        simpa using this
    · rw [if_neg hG, if_pos rfl, show min i G = min (i + 1) G by omega]
      exact this
theorem offSet_X2 (H : Rel u mo h S t c s n G N P gm nd gl nl ol kp) : fX2_offSet h c = some (ofs S ol G) := by
  have := offSet_4 H 16 FU 0 (by omega) (by unfold FU; omega)
  rw [show min 0 G = 0 by omega] at this
  exact this
/-- the lowest game that is off -/
theorem lowestOff_2 (H : Rel u mo h S t c s n G N P gm nd gl nl ol kp) : ∀ (d fu i : Nat), i + d = 16 → d < fu → (∃ g, i ≤ g ∧ g < G ∧ ofb S ol g = true ∧ (∀ j, i ≤ j → j < g → ofb S ol j = false) ∧ fX2_lowestOff_2 fu h c (nI i) = some (some (gm g))) ∨ ((∀ j, i ≤ j → j < G → ofb S ol j = false) ∧ fX2_lowestOff_2 fu h c (nI i) = some none) := by
  have h16 := H.G16
  have hrow := H.2.2.1.2.2.2.1
  intro d
  induction d with
  | zero =>
    intro fu i hi hf
    obtain ⟨fu, rfl⟩ : ∃ j, fu = j + 1 := ⟨fu - 1, by omega⟩
    right
    rw [fX2_lowestOff_2, if_pos H.cb.1, H.cb.2.2.1.1, Option.bind_some, if_pos H.cb.2.2.1.2.1, H.cb.2.2.1.2.2, if_pos (nI_le (by omega) (by omega))]
    exact ⟨fun j a b => by omega, rfl⟩
  | succ d ih =>
    intro fu i hi hf
    obtain ⟨fu, rfl⟩ : ∃ j, fu = j + 1 := ⟨fu - 1, by omega⟩
    rw [fX2_lowestOff_2, if_pos H.cb.1, H.cb.2.2.1.1, Option.bind_some, if_pos H.cb.2.2.1.2.1, H.cb.2.2.1.2.2, if_neg (nI_ge (by omega) (by omega)), if_pos (xin_nI (by omega) (by omega)), clp (by omega), hrow i (by omega)]
    unfold fX2_lowestOff_32
    rw [nI_1]
    have go : (i < G → ofb S ol i = false) → (∃ g, i ≤ g ∧ g < G ∧ ofb S ol g = true ∧ (∀ j, i ≤ j → j < g → ofb S ol j = false) ∧ fX2_lowestOff_2 fu h c (nI (i + 1)) = some (some (gm g))) ∨ ((∀ j, i ≤ j → j < G → ofb S ol j = false) ∧ fX2_lowestOff_2 fu h c (nI (i + 1)) = some none) := by
      intro hno
      rcases ih fu (i + 1) (by omega) (by omega) with ⟨g, a1, a2, a3, a4, a5⟩ | ⟨a1, a2⟩
      · refine Or.inl ⟨g, by omega, a2, a3, fun j b1 b2 => ?_, a5⟩
        rcases Nat.eq_or_lt_of_le b1 with e | e
        · subst e; exact hno (by omega)
        · exact a4 j (by omega) b2
      · refine Or.inr ⟨fun j b1 b2 => ?_, a2⟩
        rcases Nat.eq_or_lt_of_le b1 with e | e
        · subst e; exact hno b2
        · exact a1 j (by omega) b2
    by_cases hG : i < G
    · rw [if_pos hG, if_neg (by simp), isOff_X2 H hG, Option.bind_some]
      cases hb : ofb S ol i
      · rw [if_pos rfl]; exact go (fun _ => hb)
      · rw [if_neg (show ¬ (true = false) by decide)]
        exact Or.inl ⟨i, Nat.le_refl _, hG, hb, fun j a b => by omega, rfl⟩
    · rw [if_neg hG, if_pos rfl]
      exact go (fun z => absurd z hG)
end OFF
/-! PURE 18: a game becomes void; judge and settle. -/
theorem GM.cg {h : TH} {S S2 : MS} {n p i : Nat} (H : GM h S n p i) (e : ∀ a, 3 ≤ a → a ≤ 9 → m_I S2 a i = m_I S a i) (e14 : ∀ k, k < 2 → m_I S2 14 (2 * i + k) = m_I S 14 (2 * i + k) ∧ m_I S2 15 (2 * i + k) = m_I S 15 (2 * i + k)) (e16 : m_I S2 16 i = m_I S 16 i) : GM h S2 n p i := by
  obtain ⟨a1, a2, a3, a4, a5, a6, a7, a8, b1, b2, b3, b4⟩ := H
  unfold GM MG CK at *
  rw [e 3 (by omega) (by omega), e 4 (by omega) (by omega), e 5 (by omega) (by omega), e 6 (by omega) (by omega), e 7 (by omega) (by omega), e 8 (by omega) (by omega), e 9 (by omega) (by omega), e16]
  exact ⟨a1, a2, a3, a4, a5, a6, a7, a8, b1, b2, b3, fun k hk => by rw [(e14 k hk).1, (e14 k hk).2]; exact b4 k hk⟩
theorem WM.cg {S S2 : MS} {P : Nat} (e18 : ∀ L, L < P → m_J S2 18 L = m_J S 18 L ∧ m_J S2 19 L = m_J S 19 L ∧ m_I S2 20 L = m_I S 20 L) : ∀ (l : List BW) (L : Nat), WM S P L l → WM S2 P L l := by
  intro l
  induction l with
  | nil => intro L H; exact H.elim
  | cons x t ih =>
    intro L H
    obtain ⟨h1, h2, h3, h4, h5⟩ := H
    obtain ⟨a, b, d⟩ := e18 L h1
    refine ⟨h1, by rw [a]; exact h2, by rw [b]; exact h3, fun q => by rw [d]; exact h4 q, fun q => ?_⟩
    obtain ⟨L', u, v⟩ := h5 q
    exact ⟨L', by rw [d]; exact u, ih L' v⟩
theorem WM.mono {S : MS} {P P2 : Nat} (hP : P ≤ P2) : ∀ (l : List BW) (L : Nat), WM S P L l → WM S P2 L l := by
  intro l
  induction l with
  | nil => intro L H; exact H.elim
  | cons x t ih =>
    intro L H
    obtain ⟨h1, h2, h3, h4, h5⟩ := H
    exact ⟨by omega, h2, h3, h4, fun q => by obtain ⟨L', u, v⟩ := h5 q; exact ⟨L', u, ih L' v⟩⟩
theorem PM.cg {u : Nat} {h : TH} {S S2 : MS} {P P2 p i : Nat} {l : List BW} (H : PM u h S P p i l) (hP : P ≤ P2) (e : ∀ a, a = 7 ∨ a = 8 ∨ a = 11 ∨ a = 12 ∨ a = 13 → m_I S2 a i = m_I S a i) (e18 : ∀ L, L < P → m_J S2 18 L = m_J S 18 L ∧ m_J S2 19 L = m_J S 19 L ∧ m_I S2 20 L = m_I S 20 L) : PM u h S2 P2 p i l := by
  obtain ⟨h1, h2, ⟨L, h3, h4⟩, h5, h6, h7, h8⟩ := H
  refine ⟨h1, ?_, ⟨L, ?_, WM.mono hP _ _ (WM.cg e18 l L h4)⟩, ?_, ?_, ?_, h8⟩
  · unfold bg at *; rw [e 7 (by omega), e 13 (by omega)]; exact h2
  · rw [e 11 (by omega)]; exact h3
  · rw [e 12 (by omega)]; exact h5
  · rw [e 13 (by omega)]; exact h6
  · rw [e 8 (by omega), e 13 (by omega)]; exact h7
theorem pigeon : ∀ (n : Nat) (l : List Nat), l.Nodup → (∀ x ∈ l, x < n) → l.length ≤ n := by
  intro n
  induction n with
  | zero =>
    intro l _ hl
    cases l with
    | nil => exact Nat.le_refl _
    | cons x t => exact absurd (hl x List.mem_cons_self) (by omega)
  | succ n ih =>
    intro l hn hl
    by_cases h : n ∈ l
    · have h1 := ih (l.erase n) (hn.erase n) (fun x hx => by
        have := (List.Nodup.mem_erase_iff hn).mp hx
        have := hl x this.2
        omega)
      have h2 := List.length_erase_of_mem h
      have h3 := List.length_pos_of_mem h
      omega
    · have := ih l hn (fun x hx => by
        have h1 := hl x hx
        have h2 : x ≠ n := fun e => h (by rw [← e]; exact hx)
        omega)
      omega
section VOID
variable {u mo : Nat} {h : TH} {S : MS} {t c s n G N P : Nat} {gm nd : Nat → Nat} {gl nl : Nat → List BW} {ol : List Nat} {kp : Nat → Bool}
theorem Rel.gms (H : Rel u mo h S t c s n G N P gm nd gl nl ol kp) {i j : Nat} (hi : i < G) (hj : j < G) (hne : i ≠ j) : gm i ≠ gm j := fun e => hne (H.2.2.1.2.2.2.2.1 i j hi hj e)
theorem Rel.c2 (H : Rel u mo h S t c s n G N P gm nd gl nl ol kp) {a : Nat} (ha : t_kd h a ≠ 2) : a ≠ c := fun e => ha (by rw [e]; exact H.cb.1)
theorem kd_ne {h : TH} {a b : Nat} (hab : t_kd h a ≠ t_kd h b) : a ≠ b := fun e => hab (by rw [e])
theorem Rel.void_1 (H : Rel u mo h S t c s n G N P gm nd gl nl ol kp) {g : Nat} (hg : g < G) (h8 : m_I S 8 g ≠ 0) {S2 : MS} (e : Eq12 (ms_I S 9 g 1) S2) (hr : Rky S2 n ol) : Rel u mo (s_I h (gm g) 9 1) S2 t c s n G N P gm nd gl nl ol kp := by
  have hk := (H.gM hg).k3
  have A : Bx h (s_I h (gm g) 9 1) := Bx.rf.I (Or.inr (Or.inr (Or.inr (Or.inr (Or.inr (Or.inl ⟨hk, by omega⟩))))))
  have eI : ∀ a, a ≠ 1 → a ≠ 2 → a ≠ 9 → m_I S2 a = m_I S a := fun a h1 h2 h3 => by
    rw [e.2.2.1 a h1 h2]; funext j; rw [mI_I, if_neg (fun z => h3 z.1)]
  have e9 : ∀ i, m_I S2 9 i = if i = g then 1 else m_I S 9 i := fun i => by
    rw [e.2.2.1 9 (by omega) (by omega), mI_I]; simp
  have hkc : t_kd h c = 2 := H.cb.1
  have neI : ∀ a k, a ≠ gm g → t_I (s_I h (gm g) 9 1) a k = t_I h a k := fun a k ha => by rw [I_sI, if_neg (fun z => ha z.1)]
  obtain ⟨h0, h1, h2, h3, h4, h5, h6⟩ := H
  refine ⟨h0.bx A, ?_, ?_, ?_, ?_, ?_, h6⟩
  · have := h1.bx (h2 := s_I h (gm g) 9 1) (neI c 1 (kd_ne (h := h) (by omega))) (fun a _ => neI (c + 1) a (kd_ne (h := h) (by have := h0.2.2.2.1.2.1.2.1; omega)))
    unfold R1 at *
    rw [e.1, eI 0 (by omega) (by omega) (by omega)]
    exact this
  · obtain ⟨a1, a2, a3, a4, a5, a6⟩ := h2
    refine ⟨a1, by rw [neI c 3 (kd_ne (h := h) (by omega))]; exact a2, by rw [e.1]; exact a3, a4, a5, fun i hi => ?_⟩
    obtain ⟨b1, b2⟩ := a6 i hi
    have hci : ∀ k j, k < 2 → j < 2 → t_I (s_I h (gm g) 9 1) (gm i - 2 + k) j = t_I h (gm i - 2 + k) j := fun k j hk2 _ => neI _ _ (kd_ne (h := h) (by have := (b1.2.2.2.2.2.2.2.2.2.2.2 k hk2).1; omega))
    have hp : PM u (s_I h (gm g) 9 1) S P (gm i) i (gl i) := b2.bx A b1.k3 rfl (fun k hk2 => neI _ _ (kd_ne (h := h) (by have := b2.2.2.2.2.2.2.2.1; omega)))
    refine ⟨?_, hp.cg (Nat.le_refl _) (fun a ha => by rw [eI a (by omega) (by omega) (by omega)]) (fun L _ => ⟨by rw [e.2.2.2]; rfl, by rw [e.2.2.2]; rfl, by rw [eI 20 (by omega) (by omega) (by omega)]⟩)⟩
    by_cases hig : i = g
    · subst hig
      obtain ⟨c1, ⟨d1, d2, d3, d4⟩, c3, c4, c5, c6, c7, c8, c9⟩ := b1
      have eb := ((A.2 (gm i) (by omega)).2.2.2.2.1 d1).1
      unfold GM MG
      rw [eb 2 (by omega), eb 0 (by omega), eb 1 (by omega), eI 3 (by omega) (by omega) (by omega), eI 4 (by omega) (by omega) (by omega), eI 5 (by omega) (by omega) (by omega), eI 6 (by omega) (by omega) (by omega), eI 7 (by omega) (by omega) (by omega), eI 8 (by omega) (by omega) (by omega), e9, if_pos rfl]
      refine ⟨c1, ⟨d1, ?_, ?_, d4⟩, c3, c4, c5, c6, Or.inr rfl, fun z => absurd z h8, ?_⟩
      · rw [I_sI, if_pos ⟨rfl, rfl⟩]
      · rw [I_sI, if_neg (by omega)]; exact d3
      · have := c9.bx A d1 hci
        unfold CK at *
        rw [eI 14 (by omega) (by omega) (by omega), eI 15 (by omega) (by omega) (by omega), eI 16 (by omega) (by omega) (by omega)]
        exact this
    · have hne : gm i ≠ gm g := fun z => hig (a5 i g hi hg z)
      refine (b1.bx A (neI _ _ hne) (neI _ _ hne) hci).cg (fun a h1 h2 => ?_) (fun k _ => ?_) ?_
      · by_cases q : a = 9
        · subst q; rw [e9, if_neg hig]
        · rw [eI a (by omega) (by omega) q]
      · rw [eI 14 (by omega) (by omega) (by omega), eI 15 (by omega) (by omega) (by omega)]; exact ⟨rfl, rfl⟩
      · rw [eI 16 (by omega) (by omega) (by omega)]
  · have := h3.bx A (fun i hi => (h2.2.2.2.2.2 i hi).1.k3) (neI c 5 (kd_ne (h := h) (by omega))) (fun j => rfl)
    obtain ⟨a1, a2, a3, a4, a5, a6, a7, a8, a9, a10, a11⟩ := this
    refine ⟨fun j x hj => by rw [eI 17 (by omega) (by omega) (by omega)]; exact a1 j x hj, a2, by rw [e.1]; exact a3, a4, fun x hx => by rw [eI 8 (by omega) (by omega) (by omega)]; exact a5 x hx, fun x hx h => a6 x hx (by rw [eI 8 (by omega) (by omega) (by omega)] at h; exact h), a7, a8, fun x hx hk2 => ?_, fun i hi => by rw [eI 10 (by omega) (by omega) (by omega)]; exact a10 i hi, hr⟩
    rw [e9]
    split
    · decide
    · exact a9 x hx hk2
  · refine h4.bx A (Nat.le_refl _) (fun g _ => ⟨[], rfl⟩) (fun i _ => by unfold bg; rw [eI 7 (by omega) (by omega) (by omega)]) (fun a h1 h2 => eI a (by omega) (by omega) (by omega)) (by rw [e.1]; rfl) ⟨by rw [e.2.2.2]; rfl, by rw [e.2.2.2]; rfl⟩ (neI s 2 (kd_ne (h := h) (by have := h0.2.2.2.2.1; omega))) (fun i _ => rfl) (fun a ha => neI a 7 (kd_ne (h := h) (by omega))) (fun i k hi _ => neI _ _ (kd_ne (h := h) (by have := (h4.2.2.2.2.2.2 i hi).2.2.2.2.1.2.1; omega)))
  · refine h5.eq (by rw [e.1]; rfl) (fun a j ha => ?_)
    by_cases q : a = 9
    · subst q; rw [e9, if_neg (by omega)]
    · rw [eI a (by omega) (by omega) q]
/-- the list of ended games has room for one more that goes on -/
theorem Rel.ol_lt (H : Rel u mo h S t c s n G N P gm nd gl nl ol kp) {g : Nat} (hg : g < G) (h8 : m_I S 8 g = 0) : ol.length < G ∧ g ∉ ol := by
  have hno : g ∉ ol := fun hm => (H.2.2.2.1.2.2.2.2.1 g hm).2 h8
  have hp := pigeon G (g :: ol) (List.nodup_cons.mpr ⟨hno, H.2.2.2.1.2.2.2.1⟩) (fun x hx => by
    rcases List.mem_cons.mp hx with rfl | hx
    · exact hg
    · exact (H.2.2.2.1.2.2.2.2.1 x hx).1)
  simp only [List.length_cons] at hp
  exact ⟨hp, hno⟩
theorem filter_upd {kp : Nat → Bool} {g : Nat} {b : Bool} : ∀ {l : List Nat}, g ∉ l → l.filter (fun x => if x = g then b else kp x) = l.filter kp := by
  intro l hl
  apply List.filter_congr
  intro x hx
  rw [if_neg (fun e => hl (by rw [← e]; exact hx))]
/-- a game that goes on becomes void and so ends -/
theorem Rel.void_0 (H : Rel u mo h S t c s n G N P gm nd gl nl ol kp) {g : Nat} (hg : g < G) (h8 : m_I S 8 g = 0) {S2 : MS} (e : Eq12 (ms_i (ms_I (ms_I (ms_I S 9 g 1) 8 g 2) 17 ol.length (nI g)) 19 (nI (ol.length + 1))) S2) (hr : Rky S2 n (ol ++ [g])) : Rel u mo (s_I (s_I h (gm g) 9 1) (gm g) 8 2) S2 t c s n G N P gm nd gl nl (ol ++ [g]) (fun x => if x = g then false else kp x) := by
  have hk := (H.gM hg).k3
  obtain ⟨hlt, hno⟩ := H.ol_lt hg h8
  have hG16 := H.G16
  have A : Bx h (s_I (s_I h (gm g) 9 1) (gm g) 8 2) := (Bx.rf.I (Or.inr (Or.inr (Or.inr (Or.inr (Or.inr (Or.inl ⟨hk, by omega⟩))))))).I (Or.inr (Or.inr (Or.inr (Or.inr (Or.inr (Or.inl ⟨hk, by omega⟩))))))
  have eI : ∀ a, a ≠ 1 → a ≠ 2 → a ≠ 9 → a ≠ 8 → a ≠ 17 → m_I S2 a = m_I S a := fun a h1 h2 h3 h4 h5 => by
    rw [e.2.2.1 a h1 h2]; funext j; rw [mI_i, mI_I, if_neg (fun z => h5 z.1), mI_I, if_neg (fun z => h4 z.1), mI_I, if_neg (fun z => h3 z.1)]
  have e9 : ∀ i, m_I S2 9 i = if i = g then 1 else m_I S 9 i := fun i => by
    rw [e.2.2.1 9 (by omega) (by omega)]; simp [mI_i, mI_I]
  have e8 : ∀ i, m_I S2 8 i = if i = g then 2 else m_I S 8 i := fun i => by
    rw [e.2.2.1 8 (by omega) (by omega)]; simp [mI_i, mI_I]
  have e17 : ∀ i, m_I S2 17 i = if i = ol.length then nI g else m_I S 17 i := fun i => by
    rw [e.2.2.1 17 (by omega) (by omega)]; simp [mI_i, mI_I]
  have ei : ∀ k, k ≠ 19 → m_i S2 k = m_i S k := fun k hk => by rw [e.1, mi_i, if_neg hk]; rfl
  have hkc : t_kd h c = 2 := H.cb.1
  have neI : ∀ a k, a ≠ gm g → t_I (s_I (s_I h (gm g) 9 1) (gm g) 8 2) a k = t_I h a k := fun a k ha => by rw [I_sI, if_neg (fun z => ha z.1), I_sI, if_neg (fun z => ha z.1)]
  obtain ⟨h0, h1, h2, h3, h4, h5, h6⟩ := H
  refine ⟨h0.bx A, ?_, ?_, ?_, ?_, ?_, h6⟩
  · have := h1.bx (h2 := s_I (s_I h (gm g) 9 1) (gm g) 8 2) (neI c 1 (kd_ne (h := h) (by omega))) (fun a _ => neI (c + 1) a (kd_ne (h := h) (by have := h0.2.2.2.1.2.1.2.1; omega)))
    unfold R1 at *
    rw [ei 0 (by omega), eI 0 (by omega) (by omega) (by omega) (by omega) (by omega)]
    exact this
  · obtain ⟨a1, a2, a3, a4, a5, a6⟩ := h2
    refine ⟨a1, by rw [neI c 3 (kd_ne (h := h) (by omega))]; exact a2, by rw [ei 4 (by omega)]; exact a3, a4, a5, fun i hi => ?_⟩
    obtain ⟨b1, b2⟩ := a6 i hi
    have hci : ∀ k j, k < 2 → j < 2 → t_I (s_I (s_I h (gm g) 9 1) (gm g) 8 2) (gm i - 2 + k) j = t_I h (gm i - 2 + k) j := fun k j hk2 _ => neI _ _ (kd_ne (h := h) (by have := (b1.2.2.2.2.2.2.2.2.2.2.2 k hk2).1; omega))
    have hp : PM u (s_I (s_I h (gm g) 9 1) (gm g) 8 2) S P (gm i) i (gl i) := b2.bx A b1.k3 rfl (fun k hk2 => neI _ _ (kd_ne (h := h) (by have := b2.2.2.2.2.2.2.2.1; omega)))
    have w : ∀ L, L < P → m_J S2 18 L = m_J S 18 L ∧ m_J S2 19 L = m_J S 19 L ∧ m_I S2 20 L = m_I S 20 L := fun L _ => ⟨by rw [e.2.2.2]; rfl, by rw [e.2.2.2]; rfl, by rw [eI 20 (by omega) (by omega) (by omega) (by omega) (by omega)]⟩
    by_cases hig : i = g
    · subst hig
      obtain ⟨c1, ⟨d1, d2, d3, d4⟩, c3, c4, c5, c6, c7, c8, c9⟩ := b1
      refine ⟨?_, ?_⟩
      · have eb := ((A.2 (gm i) (by omega)).2.2.2.2.1 d1).1
        unfold GM MG
        rw [eb 2 (by omega), eb 0 (by omega), eb 1 (by omega), eI 3 (by omega) (by omega) (by omega) (by omega) (by omega), eI 4 (by omega) (by omega) (by omega) (by omega) (by omega), eI 5 (by omega) (by omega) (by omega) (by omega) (by omega), eI 6 (by omega) (by omega) (by omega) (by omega) (by omega), eI 7 (by omega) (by omega) (by omega) (by omega) (by omega), e8, e9, if_pos rfl, if_pos rfl]
        refine ⟨c1, ⟨d1, ?_, ?_, d4⟩, c3, c4, c5, ⟨2, by omega, rfl⟩, Or.inr rfl, fun z => absurd z (by decide), ?_⟩
        · rw [I_sI, if_neg (by omega), I_sI, if_pos ⟨rfl, rfl⟩]
        · rw [I_sI, if_pos ⟨rfl, rfl⟩]
        · have := c9.bx A d1 hci
          unfold CK at *
          rw [eI 14 (by omega) (by omega) (by omega) (by omega) (by omega), eI 15 (by omega) (by omega) (by omega) (by omega) (by omega), eI 16 (by omega) (by omega) (by omega) (by omega) (by omega)]
          exact this
      · obtain ⟨k1, k2, ⟨L, k3, k4⟩, k5, k6, k7, k8⟩ := hp
        refine ⟨k1, ?_, ⟨L, ?_, WM.cg w _ _ k4⟩, ?_, ?_, fun z => ?_, k8⟩
        · unfold bg at *
          rw [eI 7 (by omega) (by omega) (by omega) (by omega) (by omega), eI 13 (by omega) (by omega) (by omega) (by omega) (by omega)]; exact k2
        · rw [eI 11 (by omega) (by omega) (by omega) (by omega) (by omega)]; exact k3
        · rw [eI 12 (by omega) (by omega) (by omega) (by omega) (by omega)]; exact k5
        · rw [eI 13 (by omega) (by omega) (by omega) (by omega) (by omega)]; exact k6
        · rw [e8, if_pos rfl] at z; exact absurd z (by decide)
    · have hne : gm i ≠ gm g := fun z => hig (a5 i g hi hg z)
      refine ⟨(b1.bx A (neI _ _ hne) (neI _ _ hne) hci).cg (fun a h1 h2 => ?_) (fun k _ => ?_) ?_, hp.cg (Nat.le_refl _) (fun a ha => ?_) w⟩
      · by_cases q : a = 9
        · subst q; rw [e9, if_neg hig]
        · by_cases q2 : a = 8
          · subst q2; rw [e8, if_neg hig]
          · rw [eI a (by omega) (by omega) q q2 (by omega)]
      · rw [eI 14 (by omega) (by omega) (by omega) (by omega) (by omega), eI 15 (by omega) (by omega) (by omega) (by omega) (by omega)]; exact ⟨rfl, rfl⟩
      · rw [eI 16 (by omega) (by omega) (by omega) (by omega) (by omega)]
      · by_cases q2 : a = 8
        · subst q2; rw [e8, if_neg hig]
        · rw [eI a (by omega) (by omega) (by omega) q2 (by omega)]
  · have := h3.bx A (fun i hi => (h2.2.2.2.2.2 i hi).1.k3) (neI c 5 (kd_ne (h := h) (by omega))) (fun j => rfl)
    obtain ⟨a1, a2, a3, a4, a5, a6, a7, a8, a9, a10, a11⟩ := this
    have hf : (ol ++ [g]).filter (fun x => if x = g then false else kp x) = ol.filter kp := by
      rw [List.filter_append, filter_upd hno]; simp
    refine ⟨fun j x hj => ?_, by rw [List.length_append]; simp; omega, ?_, ?_, fun x hx => ?_, fun x hx h => ?_, ?_, ?_, fun x hx hk2 => ?_, fun i hi => ?_, hr⟩
    · rw [e17]
      rw [List.getElem?_append] at hj
      split at hj
      · rename_i hlt2
        rw [if_neg (by omega)]; exact a1 j x hj
      · rename_i hge
        have : j - ol.length = 0 := by
          rcases Nat.eq_zero_or_pos (j - ol.length) with q | q
          · exact q
          · rw [List.getElem?_eq_none (by simp; omega)] at hj; cases hj
        rw [this] at hj
        simp at hj
        rw [if_pos (by omega), hj]
    · rw [e.1, mi_i, if_pos rfl, List.length_append]; rfl
    · rw [List.nodup_append]
      refine ⟨a4, List.nodup_cons.mpr ⟨by simp, List.nodup_nil⟩, fun x hx y hy e2 => ?_⟩
      simp at hy
      subst hy; subst e2
      exact hno hx
    · rw [e8]
      rcases List.mem_append.mp hx with hx | hx
      · obtain ⟨q1, q2⟩ := a5 x hx
        exact ⟨q1, by split; decide; exact q2⟩
      · simp at hx
        subst hx
        exact ⟨hg, by rw [if_pos rfl]; decide⟩
    · rw [e8] at h
      by_cases q : x = g
      · subst q; simp
      · rw [if_neg q] at h
        exact List.mem_append_left _ (a6 x hx h)
    · rw [hf]; exact a7
    · rw [hf]; exact a8
    · rw [e9]
      by_cases q : x = g
      · rw [if_pos q]; decide
      · rw [if_neg q]
        rcases List.mem_append.mp hx with hx | hx
        · exact a9 x hx (by simpa [q] using hk2)
        · simp at hx; exact absurd hx q
    · obtain ⟨et, b1, b2, b3⟩ := a10 i hi
      refine ⟨et, by rw [List.length_append]; omega, by rw [eI 10 (by omega) (by omega) (by omega) (by omega) (by omega)]; exact b2, ?_⟩
      rw [b3, List.take_append_of_le_length b1, filter_upd (fun z => hno (List.mem_of_mem_take z))]
  · refine h4.bx A (Nat.le_refl _) (fun g _ => ⟨[], rfl⟩) (fun i _ => by unfold bg; rw [eI 7 (by omega) (by omega) (by omega) (by omega) (by omega)]) (fun a h1 h2 => eI a (by omega) (by omega) (by omega) (by omega) (by omega)) (ei 36 (by omega)) ⟨by rw [e.2.2.2]; rfl, by rw [e.2.2.2]; rfl⟩ (neI s 2 (kd_ne (h := h) (by have := h0.2.2.2.2.1; omega))) (fun i _ => rfl) (fun a ha => neI a 7 (kd_ne (h := h) (by omega))) (fun i k hi _ => neI _ _ (kd_ne (h := h) (by have := (h4.2.2.2.2.2.2 i hi).2.2.2.2.1.2.1; omega)))
  · refine h5.eq (ei 21 (by omega)) (fun a j ha => ?_)
    by_cases q : a = 9
    · subst q; rw [e9, if_neg (by omega)]
    · by_cases q2 : a = 8
      · subst q2; rw [e8, if_neg (by omega)]
      · rw [eI a (by omega) (by omega) q q2 (by omega)]
end VOID
/-! PURE 19: calls that change nothing. -/
def eI : String := "java/lang/IndexOutOfBoundsException"
def eA : String := "java/lang/IllegalArgumentException"
def eS : String := "java/lang/IllegalStateException"
/-- both answer alike: they return the same, or the class throws the j-th of its exceptions and the reference tells j + 1 -/
def Agr {α : Type} (mo t K : Nat) (cs : List String) (r8 : Option ((α × TH) ⊕ (String × TH))) (r9 : Option (α × MS)) : Prop :=
  ∃ h2 S2, RR mo t (K + 1) h2 S2 ∧ ((∃ v, r8 = some (.inl (v, h2)) ∧ r9 = some (v, S2) ∧ m_i S2 47 = 0) ∨ (∃ j E b, cs[j]? = some E ∧ j < 3 ∧ r8 = some (.inr (E, h2)) ∧ r9 = some (b, S2) ∧ m_i S2 47 = nI (j + 1)))
theorem RR.up {mo t K K2 : Nat} {h : TH} {S S2 : MS} (H : RR mo t K h S) (hK : K ≤ K2) (e : ∀ n, Sq n S S2) : RR mo t K2 h S2 := by
  obtain ⟨c, s, n, G, N, P, gm, nd, gl, nl, ol, kp, hP, R⟩ := H
  exact ⟨c, s, n, G, N, P, gm, nd, gl, nl, ol, kp, by omega, R.sq (e n)⟩
theorem Agr.err {α : Type} {mo t K j : Nat} {cs : List String} {E : String} {b : α} {h : TH} {S S2 : MS} {r8 : Option ((α × TH) ⊕ (String × TH))} {r9 : Option (α × MS)} (H : RR mo t K h S) (e : ∀ n, Sq n S S2) (h1 : cs[j]? = some E) (hj : j < 3) (h8 : r8 = some (.inr (E, h))) (h9 : r9 = some (b, S2)) (h47 : m_i S2 47 = nI (j + 1)) : Agr mo t K cs r8 r9 :=
  ⟨h, S2, H.up (by omega) e, Or.inr ⟨j, E, b, h1, hj, h8, h9, h47⟩⟩
theorem Agr.same {α : Type} {mo t K : Nat} {cs : List String} {v : α} {h : TH} {S S2 : MS} {r8 : Option ((α × TH) ⊕ (String × TH))} {r9 : Option (α × MS)} (H : RR mo t K h S) (e : ∀ n, Sq n S S2) (h8 : r8 = some (.inl (v, h))) (h9 : r9 = some (v, S2)) (h47 : m_i S2 47 = 0) : Agr mo t K cs r8 r9 :=
  ⟨h, S2, H.up (by omega) e, Or.inl ⟨v, h8, h9, h47⟩⟩
theorem Sq.f {n : Nat} {S : MS} {v : Int32} : Sq n S (ms_i S 47 v) := Sq.i (Or.inr (Or.inr rfl))
theorem i47 {S : MS} {v : Int32} : m_i (ms_i S 47 v) 47 = v := by rw [mi_i, if_pos rfl]
theorem xcs_1 {α β : Type} {a : α} {k : α → Option (β ⊕ (String × TH))} : xcs (.inl a) k = k a := rfl
theorem xcs_2 {α β : Type} {e : String × TH} {k : α → Option (β ⊕ (String × TH))} : xcs (.inr e : α ⊕ (String × TH)) k = some (.inr e) := rfl
theorem tf : ¬ (true = false) := by decide
section SIMPLE
variable {u mo : Nat} {h : TH} {S : MS} {t c s n G N P : Nat} {gm nd : Nat → Nat} {gl nl : Nat → List BW} {ol : List Nat} {kp : Nat → Bool}
theorem isGame_X9 (H : Rel u mo h S t c s n G N P gm nd gl nl ol kp) (x : Int32) : fX9_isGame S x = some (isN x G) := by
  have h16 := H.G16
  unfold fX9_isGame
  rw [H.2.2.1.2.2.1, isIn_X9, Option.bind_some, isIn_pred (by omega)]
theorem isPlayer_X9 (H : Rel u mo h S t c s n G N P gm nd gl nl ol kp) (x : Int32) : fX9_isPlayer S x = some (isN x n) := by
  have h8 := H.2.1.1
  unfold fX9_isPlayer
  rw [H.2.1.2.2.1, isIn_X9, Option.bind_some, isIn_pred (by omega)]
theorem isNode_X9 (H : Rel u mo h S t c s n G N P gm nd gl nl ol kp) (x : Int32) : fX9_isNode S x = some (isN x N) := by
  have h8 := H.2.2.2.2.1.1
  unfold fX9_isNode
  rw [H.2.2.2.2.1.2.2.1, isIn_X9, Option.bind_some, isIn_pred (by omega)]
theorem isN_lt {x : Int32} {a b : Nat} (ha : a < 2 ^ 31) (hb : b < 2 ^ 31) (h0 : ¬ x < 0) (hlt : x < nI b) : ∃ k, k < b ∧ x = nI k ∧ (isN x a = decide (k < a)) := by
  obtain ⟨k, hk, rfl⟩ := nI_of h0
  refine ⟨k, (nI_ltI hk hb).mp hlt, rfl, ?_⟩
  unfold isN
  rw [decide_eq_true (nI_pos' hk), Bool.true_and]
  exact decide_eq_decide.mpr (nI_ltI hk ha)
theorem isN_ge {x : Int32} {a b : Nat} (hab : a ≤ b) (hb : b < 2 ^ 31) (hlt : ¬ x < nI b) : isN x a = false := by
  unfold isN
  rw [Bool.and_eq_false_iff]
  by_cases h0 : x < 0
  · exact Or.inl (decide_eq_false (Int32.not_le.mpr h0))
  · right
    obtain ⟨k, hk, rfl⟩ := nI_of h0
    apply decide_eq_false
    intro h
    have h1 := (nI_ltI hk (by omega)).mp h
    exact hlt (nI_lt (by omega) hb)
theorem isN_neg {x : Int32} {a : Nat} (h : x < 0) : isN x a = false := by
  unfold isN
  rw [decide_eq_false (Int32.not_le.mpr h)]; rfl
theorem matchOf_X8 (H : Rel u mo h S t c s n G N P gm nd gl nl ol kp) (x : Int32) : (∃ g, g < G ∧ x = nI g ∧ fX8_matchOf h t x = some (.inl (some (gm g), h))) ∨ (isN x G = false ∧ fX8_matchOf h t x = some (.inr (eI, h))) := by
  have h16 := H.G16
  have hrow := H.2.2.1.2.2.2.1
  unfold fX8_matchOf fX2_matchAt
  rw [if_pos H.1.1, H.1.2.1, Option.bind_some, if_pos H.cb.1]
  by_cases h0 : x < 0
  · right
    rw [if_pos h0]
    exact ⟨isN_neg h0, rfl⟩
  · rw [if_neg h0, H.cb.2.2.1.1, Option.bind_some, if_pos H.cb.2.2.1.2.1, H.cb.2.2.1.2.2]
    by_cases hlt : x < nI 16
    · obtain ⟨k, hk, rfl, hq⟩ := isN_lt (a := G) (by omega) (by omega) h0 hlt
      rw [if_pos hlt, if_pos (xin_nI hk (by omega)), clp (by omega), hrow k hk, if_pos H.cb.1]
      by_cases hG : k < G
      · left
        rw [if_pos hG]
        exact ⟨k, hG, rfl, rfl⟩
      · right
        rw [if_neg hG]
        exact ⟨by rw [hq]; simp; omega, rfl⟩
    · right
      rw [if_neg hlt, if_pos H.cb.1]
      exact ⟨isN_ge h16 (by omega) hlt, rfl⟩
theorem requirePlayer_X8 (H : Rel u mo h S t c s n G N P gm nd gl nl ol kp) (x : Int32) : fX8_requirePlayer h t x = some (if isN x n = true then .inl h else .inr (eI, h)) := by
  have h8 := H.2.1.1
  unfold fX8_requirePlayer fX2_hasPlayer
  rw [if_pos H.1.1, H.1.2.1, Option.bind_some, if_pos H.cb.1]
  by_cases h0 : x < 0
  · rw [if_pos h0, isN_neg h0]; rfl
  · rw [if_neg h0, H.2.1.2.1]
    obtain ⟨k, hk, rfl⟩ := nI_of h0
    have e : isN (nI k) n = decide (k < n) := by
      unfold isN
      rw [decide_eq_true (nI_pos' hk), Bool.true_and]
      exact decide_eq_decide.mpr (nI_ltI hk (by omega))
    rw [e, if_pos H.cb.1]
    by_cases hlt : k < n
    · rw [if_neg (nI_ge hlt (by omega)), decide_eq_true hlt]; rfl
    · rw [if_pos (nI_le (by omega) hk), decide_eq_false hlt]; rfl
theorem told_X3 (H : Rel u mo h S t c s n G N P gm nd gl nl ol kp) {g : Nat} (hg : g < G) : fX3_told h (gm g) = some (m_I S 8 g + (if m_I S 9 g = 0 then 0 else 10)) := by
  have hM := (H.gM hg).2.1
  unfold fX3_told
  rw [if_pos hM.1, hM.2.1, hM.2.2.1]
  by_cases h9 : m_I S 9 g = 0
  · rw [if_pos h9, if_pos h9, Int32.add_zero]
  · rw [if_neg h9, if_neg h9]
/-- state -/
theorem call_state {K : Nat} (H0 : RR mo t K h S) (x : Int32) : Agr mo t K [eI] (fX8_state h t x) (fX9_state S x) := by
  obtain ⟨c, s, n, G, N, P, gm, nd, gl, nl, ol, kp, hP, H⟩ := id H0
  have h16 := H.G16
  unfold fX8_state fX9_state fX9_state_14
  rw [if_pos H.1.1, isGame_X9 H, Option.bind_some]
  rcases matchOf_X8 H x with ⟨g, hg, rfl, e⟩ | ⟨e1, e⟩
  · refine Agr.same H0 (fun n => Sq.f) (v := m_I S 8 g + (if m_I S 9 g = 0 then 0 else 10)) (S2 := ms_i S 47 0) ?_ ?_ i47
    · rw [e, Option.bind_some, xcs_1]
      dsimp only
      rw [Option.bind_some, if_pos (H.gM hg).k3, told_X3 H hg, Option.bind_some]
    · rw [isN_nI hg (by omega), if_neg tf, fails_0, Option.bind_some]
      dsimp only
      rw [if_pos rfl]
      unfold fX9_stateOf fX9_stateOf_21
      rw [if_pos (xin_nI (show g < 16 by omega) (by omega)), clp (by omega), mI_i]
      by_cases h9 : m_I S 9 g = 0
      · rw [if_pos h9, if_pos h9, Option.bind_some]
      · rw [if_neg h9, if_neg h9, Option.bind_some]
  · refine Agr.err H0 (fun n => Sq.f) (j := 0) (E := eI) (b := 0) (S2 := ms_i S 47 1) rfl (by omega) ?_ ?_ i47
    · rw [e, Option.bind_some, xcs_2]
    · rw [e1, if_pos rfl, fails_1]; rfl
/-- handicap -/
theorem call_handicap {K : Nat} (H0 : RR mo t K h S) (x : Int32) : Agr mo t K [eI] (fX8_handicap h t x) (fX9_handicap S x) := by
  obtain ⟨c, s, n, G, N, P, gm, nd, gl, nl, ol, kp, hP, H⟩ := id H0
  have h16 := H.G16
  unfold fX8_handicap fX9_handicap fX9_handicap_14
  rw [if_pos H.1.1, isGame_X9 H, Option.bind_some]
  rcases matchOf_X8 H x with ⟨g, hg, rfl, e⟩ | ⟨e1, e⟩
  · refine Agr.same H0 (fun n => Sq.f) (v := hv S g) (S2 := ms_i S 47 0) ?_ ?_ i47
    · rw [e, Option.bind_some, xcs_1]
      dsimp only
      rw [Option.bind_some, if_pos (H.gM hg).k3, hv_X2 H hg]
    · rw [isN_nI hg (by omega), if_neg tf, fails_0, Option.bind_some]
      dsimp only
      rw [if_pos rfl, if_pos (xin_nI (show g < 16 by omega) (by omega)), clp (by omega)]
      rfl
  · refine Agr.err H0 (fun n => Sq.f) (j := 0) (E := eI) (b := 0) (S2 := ms_i S 47 1) rfl (by omega) ?_ ?_ i47
    · rw [e, Option.bind_some, xcs_2]
    · rw [e1, if_pos rfl, fails_1]; rfl
/-- due -/
theorem call_due {K : Nat} (H0 : RR mo t K h S) (x : Int32) : Agr mo t K [eI] (fX8_due h t x) (fX9_due S x) := by
  obtain ⟨c, s, n, G, N, P, gm, nd, gl, nl, ol, kp, hP, H⟩ := id H0
  have h16 := H.G16
  unfold fX8_due fX9_due fX9_due_14
  rw [if_pos H.1.1, isGame_X9 H, Option.bind_some]
  rcases matchOf_X8 H x with ⟨g, hg, rfl, e⟩ | ⟨e1, e⟩
  · have e47 : Sq n S (ms_i S 47 0) := Sq.f
    obtain ⟨S2, k1, k2, k3⟩ := due_X9 (H.sq e47) hg
    refine ⟨h, S2, ⟨c, s, n, G, N, P, gm, nd, gl, nl, ol, kp, by omega, H.sq (e47.tr k2)⟩, Or.inl ⟨dv S ol g, ?_, ?_, ?_⟩⟩
    · rw [e, Option.bind_some, xcs_1]
      dsimp only
      rw [H.1.2.1, Option.bind_some, if_pos H.cb.1, due_X2 H hg, Option.bind_some]
    · rw [isN_nI hg (by omega), if_neg tf, fails_0, Option.bind_some]
      dsimp only
      rw [if_pos rfl, k1, dv_sq e47, Option.bind_some]
    · rw [k3]; exact i47
  · refine Agr.err H0 (fun n => Sq.f) (j := 0) (E := eI) (b := 0) (S2 := ms_i S 47 1) rfl (by omega) ?_ ?_ i47
    · rw [e, Option.bind_some, xcs_2]
    · rw [e1, if_pos rfl, fails_1]; rfl
theorem Rel.P_le {K : Nat} (H : Rel u mo h S t c s n G N P gm nd gl nl ol kp) : True := trivial
/-- the board of a game as both hold it -/
theorem Rel.pos (H : Rel u mo h S t c s n G N P gm nd gl nl ol kp) {g : Nat} (hg : g < G) : ∃ q L x l, gl g = x :: l ∧ t_R h (gm g) 6 = some q ∧ WH h (bg S g) q (x :: l) ∧ m_I S 11 g = nI L ∧ WM S P L (x :: l) ∧ OKB x ∧ m_I S 12 g = nI l.length := by
  obtain ⟨h1, ⟨q, a1, a2, a3⟩, ⟨L, a4, a5⟩, a6, -⟩ := H.pm hg
  cases hl : gl g with
  | nil => rw [hl] at a2; exact a2.elim
  | cons x l =>
    rw [hl] at h1 a2 a5 a6
    exact ⟨q, L, x, l, rfl, a1, a2, a4, a5, h1 x List.mem_cons_self, a6⟩
/-- sign -/
theorem call_sign {K : Nat} (hK : K ≤ 4096) (H0 : RR mo t K h S) (x y : Int32) : Agr mo t K [eI] (fX8_sign h t x y) (fX9_sign S x y) := by
  obtain ⟨c, s, n, G, N, P, gm, nd, gl, nl, ol, kp, hP, H⟩ := id H0
  have h16 := H.G16
  unfold fX8_sign fX9_sign
  rw [if_pos H.1.1, isGame_X9 H, Option.bind_some]
  have err : ∀ r8, r8 = some (.inr (eI, h)) → Agr (α := Int32) mo t K [eI] r8 (fX9_sign_21 S x y 1) :=
    fun r8 h8 => Agr.err H0 (fun n => Sq.f) (j := 0) (E := eI) (b := 32) (S2 := ms_i S 47 1) rfl (by omega) h8 (by unfold fX9_sign_21; rw [fails_1]; rfl) i47
  rcases matchOf_X8 H x with ⟨g, hg, rfl, e⟩ | ⟨e1, e⟩
  · rw [isN_nI hg (by omega), if_neg tf, isPoint_X9, Option.bind_some, e, Option.bind_some, xcs_1]
    dsimp only
    rw [point_X8, Option.bind_some]
    rcases isN_cases (x := y) (n := 49) (by omega) with hy | ⟨p, hp, rfl⟩
    · rw [hy, if_pos rfl, if_neg ff, xcs_2]
      exact err _ rfl
    · obtain ⟨q, L, b, l, -, a1, a2, a3, a4, a5, a6⟩ := H.pos hg
      rw [isN_nI hp (by omega), if_pos rfl, if_neg tf, xcs_1]
      refine Agr.same H0 (fun n => Sq.f) (v := if bt b.1 p = true then 88 else if bt b.2 p = true then 79 else 46) (S2 := ms_i S 47 0) ?_ ?_ i47
      · rw [Option.bind_some, if_pos (H.gM hg).k3, a1, Option.bind_some, if_pos a2.1]
        unfold fX4_signAt
        rw [if_pos a2.1, a2.2.1, a2.2.2.1, pt_nI]
        by_cases h1 : bt b.1 p = true
        · rw [if_neg (fun z => by rw [(and_pt0 (by omega)).mp z] at h1; cases h1), if_pos h1]; rfl
        · rw [if_pos ((and_pt0 (by omega)).mpr (by simpa using h1)), if_neg h1]
          by_cases h2 : bt b.2 p = true
          · rw [if_neg (fun z => by rw [(and_pt0 (by omega)).mp z] at h2; cases h2), if_pos h2]; rfl
          · rw [if_pos ((and_pt0 (by omega)).mpr (by simpa using h2)), if_neg h2]; rfl
      · have hL := a4.1
        unfold fX9_sign_21
        rw [fails_0, Option.bind_some]
        dsimp only
        rw [if_pos rfl, if_pos (xin_nI (show g < 16 by omega) (by omega)), clp (show g < 2 ^ 31 by omega), mI_i, mJ_i, a3, bit_X9, Option.bind_some, Option.bind_some, if_pos (xin_nI (show L < 4096 by omega) (by omega)), clp (show L < 2 ^ 31 by omega), a4.2.1, a4.2.2.1]
        by_cases h1 : bt b.1 p = true
        · rw [if_neg (fun z => by rw [(and_pt0 (by omega)).mp z] at h1; cases h1), if_pos h1]; rfl
        · rw [if_pos ((and_pt0 (by omega)).mpr (by simpa using h1)), if_neg h1]
          by_cases h2 : bt b.2 p = true
          · rw [if_neg (fun z => by rw [(and_pt0 (by omega)).mp z] at h2; cases h2), if_pos h2]; rfl
          · rw [if_pos ((and_pt0 (by omega)).mpr (by simpa using h2)), if_neg h2]; rfl
  · rw [e1, if_pos rfl]
    refine err _ ?_
    rw [e, Option.bind_some, xcs_2]
/-- clock -/
theorem call_clock {K : Nat} (H0 : RR mo t K h S) (x y : Int32) : Agr mo t K [eI] (fX8_clock h t x y) (fX9_clock S x y) := by
  obtain ⟨c, s, n, G, N, P, gm, nd, gl, nl, ol, kp, hP, H⟩ := id H0
  have h16 := H.G16
  unfold fX8_clock fX9_clock fX9_clock_22
  rw [if_pos H.1.1, isGame_X9 H, Option.bind_some]
  have err : ∀ r8, r8 = some (.inr (eI, h)) → Agr (α := Int32) mo t K [eI] r8 (fX9_clock_33 S x y 1) :=
    fun r8 h8 => Agr.err H0 (fun n => Sq.f) (j := 0) (E := eI) (b := 0) (S2 := ms_i S 47 1) rfl (by omega) h8 (by unfold fX9_clock_33; rw [fails_1]; rfl) i47
  rcases matchOf_X8 H x with ⟨g, hg, rfl, e⟩ | ⟨e1, e⟩
  · have hy2 : (decide ((0 : Int32) ≤ y) && decide (y ≤ 1)) = isN y 2 := isIn_pred (n := 2) (by omega)
    rw [isN_nI hg (by omega), if_neg tf, isIn_X9, Option.bind_some, hy2, e, Option.bind_some, xcs_1]
    dsimp only
    rcases isN_cases (x := y) (n := 2) (by omega) with hy | ⟨k, hk, rfl⟩
    · have n0 : ¬ y = 0 := fun z => by rw [z] at hy; exact absurd hy (by decide)
      have n1 : ¬ y = 1 := fun z => by rw [z] at hy; exact absurd hy (by decide)
      rw [hy, if_neg n0, if_neg n1, if_pos rfl, if_pos rfl]
      exact err _ rfl
    · have hGM := H.gM hg
      have hCK := hGM.2.2.2.2.2.2.2.2
      obtain ⟨k1, k2, k3, -⟩ := hCK.2.2.2 k hk
      rw [isN_nI hk (by omega), if_neg tf]
      refine Agr.same H0 (fun n => Sq.f) (v := (10 : Int32) * m_I S 14 (2 * g + k) + m_I S 15 (2 * g + k)) (S2 := ms_i S 47 0) ?_ ?_ i47
      · have hck : fX8_clock_25 h t (nI k) (some (gm g)) = some (.inl ((10 : Int32) * m_I S 14 (2 * g + k) + m_I S 15 (2 * g + k), h)) := by
          unfold fX8_clock_25 fX3_clockOf
          rw [Option.bind_some, if_pos hGM.k3]
          have hp2 := hGM.1
          have : k = 0 ∨ k = 1 := by omega
          rcases this with rfl | rfl
          · rw [Nat.add_zero (gm g - 2)] at k1 k2 k3
            rw [if_pos (show nI 0 = 0 from rfl), if_pos hGM.k3, hCK.1, Option.bind_some, Option.bind_some, if_pos k1]
            unfold fX1_reading
            rw [if_pos k1, k2, k3]; rfl
          · rw [if_neg (show ¬ nI 1 = 0 by decide), if_pos hGM.k3, hCK.2.1, Option.bind_some, Option.bind_some]
            rw [show gm g - 2 + 1 = gm g - 1 by omega] at k1 k2 k3
            rw [if_pos k1]
            unfold fX1_reading
            rw [if_pos k1, k2, k3]; rfl
        have : k = 0 ∨ k = 1 := by omega
        rcases this with rfl | rfl
        · rw [if_pos (show nI 0 = 0 from rfl)]; exact hck
        · rw [if_neg (show ¬ nI 1 = 0 by decide), if_pos (show nI 1 = 1 from rfl)]; exact hck
      · unfold fX9_clock_33
        have e2 : (2 : Int32) * nI g + nI k = nI (2 * g + k) := by rw [show (2 : Int32) = nI 2 by decide, pk_mul, nI_add]
        rw [fails_0, Option.bind_some]
        dsimp only
        rw [if_neg (show ¬ (1 : Int32) = 0 by decide), if_pos rfl, e2, mI_i, if_pos (xin_nI (show 2 * g + k < 32 by omega) (by omega)), clp (show 2 * g + k < 2 ^ 31 by omega)]
  · rw [e1, if_pos rfl, if_pos rfl]
    refine err _ ?_
    rw [e, Option.bind_some, xcs_2]
end SIMPLE
