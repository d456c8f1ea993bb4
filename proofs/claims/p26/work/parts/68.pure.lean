/-! PURE 23: the clocks; a move is made. -/
section CLOCK
variable {u mo : Nat} {h : TH} {S : MS} {t c s n G N P : Nat} {gm nd : Nat → Nat} {gl nl : Nat → List BW} {ol : List Nat} {kp : Nat → Bool}
/-- heaps that differ in one row of whole numbers alone -/
def I1 (a : Nat) (h h2 : TH) : Prop := t_sz h2 = t_sz h ∧ t_kd h2 = t_kd h ∧ t_ln h2 = t_ln h ∧ t_J h2 = t_J h ∧ t_R h2 = t_R h ∧ ∀ b, b ≠ a → t_I h2 b = t_I h b
theorem I1.w {a k : Nat} {h : TH} {v : Int32} : I1 a h (s_I h a k v) := ⟨rfl, rfl, rfl, rfl, rfl, fun b hb => x_up2_ne hb⟩
theorem I1.tr {a : Nat} {h h2 h3 : TH} (A : I1 a h h2) (B : I1 a h2 h3) : I1 a h h3 := ⟨B.1.trans A.1, B.2.1.trans A.2.1, B.2.2.1.trans A.2.2.1, B.2.2.2.1.trans A.2.2.2.1, B.2.2.2.2.1.trans A.2.2.2.2.1, fun b hb => (B.2.2.2.2.2 b hb).trans (A.2.2.2.2.2 b hb)⟩
theorem I1.ld {a mo : Nat} {h h2 : TH} (A : I1 a h h2) (H : LDp mo h) : LDp mo h2 := by unfold LDp at *; rw [A.1, A.2.1]; exact H
theorem I1.bx1 {a : Nat} {h h2 : TH} (A : I1 a h h2) (hk : t_kd h a = 1) (h2' : t_I h2 a 2 = t_I h a 2) : Bx h h2 := by
  refine ⟨by rw [A.1]; exact Nat.le_refl _, fun b hb => ?_⟩
  rw [A.2.1, A.2.2.1, A.2.2.2.1, A.2.2.2.2.1]
  by_cases e : b = a
  · subst e
    exact ⟨rfl, rfl, fun q => by omega, fun _ => rfl, fun q => by omega, fun q => by omega, fun _ => h2'⟩
  · rw [A.2.2.2.2.2 b e]
    exact ⟨rfl, rfl, fun _ => ⟨rfl, rfl, rfl⟩, fun _ => rfl, fun _ => ⟨fun _ _ => rfl, rfl, rfl, rfl⟩, fun _ => ⟨rfl, fun _ _ => rfl⟩, fun _ => rfl⟩
theorem Rel.clk (H : Rel u mo h S t c s n G N P gm nd gl nl ol kp) {g k : Nat} (hg : g < G) (hk : k < 2) {h1 : TH} {S1 : MS} (A1 : I1 (gm g - 2 + k) h h1) (q0 : t_I h1 (gm g - 2 + k) 0 = m_I S1 14 (2 * g + k)) (q1 : t_I h1 (gm g - 2 + k) 1 = m_I S1 15 (2 * g + k)) (q2 : t_I h1 (gm g - 2 + k) 2 = t_I h (gm g - 2 + k) 2) (v0 : IV (m_I S1 14 (2 * g + k)) 3601) (v1 : IV (m_I S1 15 (2 * g + k)) 6)
    (e1 : m_i S1 = m_i S) (e2 : m_J S1 = m_J S) (e3 : ∀ x, x ≠ 14 → x ≠ 15 → m_I S1 x = m_I S x) (e4 : ∀ j, j ≠ 2 * g + k → m_I S1 14 j = m_I S 14 j ∧ m_I S1 15 j = m_I S 15 j) : Rel u mo h1 S1 t c s n G N P gm nd gl nl ol kp := by
  have hck := (H.gM hg).2.2.2.2.2.2.2.2
  have hka := (hck.2.2.2 k hk).1
  have A : Bx h h1 := A1.bx1 hka q2
  have neI : ∀ a j, t_kd h a ≠ 1 → t_I h1 a j = t_I h a j := fun a j ha => by rw [A1.2.2.2.2.2 a (kd_ne (h := h) (by omega))]
  have hR := A1.2.2.2.2.1
  have hld := A1.ld H.2.2.2.2.2.2
  have Gq1 : ∀ l, Gq S S1 l := fun l x _ => by rw [e3 9 (by omega) (by omega), e3 5 (by omega) (by omega), e3 6 (by omega) (by omega), e3 8 (by omega) (by omega)]; exact ⟨rfl, rfl, rfl, rfl⟩
  obtain ⟨h0, h1', h2', h3, h4, h5, h6⟩ := H
  have hkc : t_kd h c = 2 := h0.2.2.2.1.1
  refine ⟨h0.bx A, ?_, ?_, ?_, ?_, ?_, hld⟩
  · have := h1'.bx (h2 := h1) (neI c 1 (by omega)) (fun a _ => neI (c + 1) a (by have := h0.2.2.2.1.2.1.2.1; omega))
    unfold R1 at *
    rw [e1, e3 0 (by omega) (by omega)]
    exact this
  · obtain ⟨a1, a2, a3, a4, a5, a6⟩ := h2'
    refine ⟨a1, by rw [neI c 3 (by omega)]; exact a2, by rw [e1]; exact a3, fun i hi => by rw [hR]; exact a4 i hi, a5, fun i hi => ?_⟩
    obtain ⟨b1, b2⟩ := a6 i hi
    have k3 := b1.k3
    have k9 := b2.2.2.2.2.2.2.2.1
    have hp : PM u h1 S P (gm i) i (gl i) := b2.bx A k3 (by rw [hR]) (fun j _ => neI _ _ (by omega))
    refine ⟨?_, hp.cg (Nat.le_refl _) (fun a ha => by rw [e3 a (by omega) (by omega)]) (fun L _ => ⟨by rw [e2], by rw [e2], by rw [e3 20 (by omega) (by omega)]⟩)⟩
    obtain ⟨c1, c2, c3, c4, c5, c6, c7, c8, c9⟩ := b1
    have eb := ((A.2 (gm i) (by omega)).2.2.2.2.1 k3)
    have c2' := c2.bx A (neI _ 9 (by omega)) (neI _ 8 (by omega))
    unfold MG at c2'
    unfold GM MG
    rw [e3 3 (by omega) (by omega), e3 4 (by omega) (by omega), e3 5 (by omega) (by omega), e3 6 (by omega) (by omega), e3 7 (by omega) (by omega), e3 8 (by omega) (by omega), e3 9 (by omega) (by omega), eb.1 0 (by omega), eb.1 1 (by omega)]
    rw [eb.1 0 (by omega), eb.1 1 (by omega)] at c2'
    refine ⟨c1, c2', c3, c4, c5, c6, c7, c8, ?_⟩
    obtain ⟨d1, d2, d3, d4⟩ := c9
    refine ⟨by rw [hR]; exact d1, by rw [hR]; exact d2, by rw [e3 16 (by omega) (by omega)]; exact d3, fun k' hk' => ?_⟩
    obtain ⟨f1, f2, f3, f4, f5, f6⟩ := d4 k' hk'
    by_cases hsame : i = g ∧ k' = k
    · obtain ⟨rfl, rfl⟩ := hsame
      exact ⟨A.kd f1, q0, q1, by rw [q2, e3 16 (by omega) (by omega)]; exact f4, v0, v1⟩
    · have hne : gm i - 2 + k' ≠ gm g - 2 + k := fun e => by
        have hg2 := (a6 g hg).1.1
        have hkg := (a6 g hg).1.k3
        have hk9g := (a6 g hg).2.2.2.2.2.2.2.2.1
        rcases Nat.lt_trichotomy k' k with q | q | q
        · have e5 : gm i = gm g + 1 := by omega
          rw [e5] at k3; omega
        · have e5 : gm i = gm g := by omega
          exact hsame ⟨a5 i g hi hg e5, q⟩
        · have e5 : gm g = gm i + 1 := by omega
          rw [e5] at hkg; omega
      have hix : 2 * i + k' ≠ 2 * g + k := fun e => hsame ⟨by omega, by omega⟩
      rw [(e4 _ hix).1, (e4 _ hix).2, e3 16 (by omega) (by omega), A1.2.2.2.2.2 _ hne]
      exact ⟨A.kd f1, f2, f3, f4, f5, f6⟩
  · have := h3.bx A (fun i hi => (h2'.2.2.2.2.2 i hi).1.k3) (neI c 5 (by omega)) (fun j => by rw [hR])
    obtain ⟨a1, a2, a3, a4, a5, a6, a7, a8, a9, a10, a11⟩ := this
    refine ⟨fun j x hj => by rw [e3 17 (by omega) (by omega)]; exact a1 j x hj, a2, by rw [e1]; exact a3, a4, fun x hx => by rw [e3 8 (by omega) (by omega)]; exact a5 x hx, fun x hx h => a6 x hx (by rw [e3 8 (by omega) (by omega)] at h; exact h), a7, a8, fun x hx hk2 => by rw [e3 9 (by omega) (by omega)]; exact a9 x hx hk2, fun i hi => by rw [e3 10 (by omega) (by omega)]; exact a10 i hi, fun b hb => ?_⟩
    rw [e3 1 (by omega) (by omega), e3 2 (by omega) (by omega), stdF_q (Gq1 ol) (by rw [e3 0 (by omega) (by omega)])]
    exact a11 b hb
  · have hk5 : t_kd h s = 5 := h0.2.2.2.2.1
    exact h4.bx A (Nat.le_refl _) (fun g _ => ⟨[], rfl⟩) (fun i _ => by unfold bg; rw [e3 7 (by omega) (by omega)]) (fun a h1 h2 => e3 a (by omega) (by omega)) (by rw [e1]) ⟨by rw [e2], by rw [e2]⟩ (neI s 2 (by omega)) (fun i _ => by rw [hR]) (fun a ha => neI a 7 (by omega)) (fun i j hi _ => neI _ _ (by have := (h4.2.2.2.2.2.2 i hi).2.2.2.2.1.2.1; omega))
  · exact h5.eq (by rw [e1]) (fun a j ha => by rw [e3 a (by omega) (by omega)])
theorem xmax_sub {a b : Nat} (ha : a < 2 ^ 30) (hb : b < 2 ^ 30) : x_max 0 (nI a - nI b) = nI (a - b) := by
  unfold x_max
  by_cases h : b ≤ a
  · rw [pk_sub h]
    by_cases h0 : a - b = 0
    · rw [h0]; rfl
    · rw [if_pos (by rw [← nI_0]; exact nI_lt (by omega) (by omega))]
  · have h1 := pk_sneg (a := a) (b := b) hb (by omega)
    rw [if_neg (Int32.not_lt.mpr (Int32.le_of_lt h1)), show a - b = 0 by omega]; rfl
/-- both take the seconds of a move -/
theorem take_ok (H : Rel u mo h S t c s n G N P gm nd gl nl ol kp) {g z m : Nat} (hg : g < G) (hz : z ≤ 1000) (h12 : m_I S 12 g = nI m) (hm : m < 5000) :
    ∃ b h1 S1, fX1_take h (gm g - 2 + (bg S g + m) % 2) (nI z) = some (b, h1) ∧ fX9_runsOut S (nI g) (nI z) = some (!b, S1) ∧ Rel u mo h1 S1 t c s n G N P gm nd gl nl ol kp ∧ I1 (gm g - 2 + (bg S g + m) % 2) h h1 ∧ Bx h h1 ∧ m_i S1 = m_i S ∧ m_j S1 = m_j S ∧ m_J S1 = m_J S ∧ (∀ x, x ≠ 14 → x ≠ 15 → m_I S1 x = m_I S x) := by
  have h16 := H.G16
  generalize hkd : (bg S g + m) % 2 = k
  have hk : k < 2 := by omega
  have hck := (H.gM hg).2.2.2.2.2.2.2.2
  obtain ⟨L, hL1, hL2, hL⟩ := hck.2.2.1
  obtain ⟨ka, k0, k1, k2, ⟨mm, hmm, e0⟩, ⟨pd, hpd, e1⟩⟩ := hck.2.2.2 k hk
  have hs := sideOf_X9 (S := S) (g := g) (m := m) (by omega) hm
  rw [hkd] at hs
  have e2 : (2 : Int32) * nI g + nI k = nI (2 * g + k) := by rw [show (2 : Int32) = nI 2 by decide, pk_mul, nI_add]
  have hx32 := xin_nI (k := 2 * g + k) (n := 32) (by omega) (by omega)
  have hcl := clp (k := 2 * g + k) (by omega)
  generalize ha : gm g - 2 + k = a at *
  by_cases hle : z ≤ mm
  · refine ⟨true, s_I h a 0 (nI (mm - z)), ms_I S 14 (2 * g + k) (nI (mm - z)), ?_, ?_, ?_, I1.w, I1.w.bx1 ka (by rw [I_sI, if_neg (by omega)]), rfl, rfl, rfl, fun x h1 h2 => by funext j; rw [mI_I, if_neg (fun z => h1 z.1)]⟩
    · unfold fX1_take
      rw [if_pos ka, k0, e0, if_neg (nI_nlt hle (by omega)), pk_sub hle]
    · unfold fX9_runsOut
      rw [if_pos (xin_nI (show g < 16 by omega) (by omega)), clp (show g < 2 ^ 31 by omega), h12, hs, Option.bind_some, e2, if_pos hx32, hcl, e0, if_neg (nI_nlt hle (by omega)), Option.bind_some, pk_sub hle]
      rfl
    · refine H.clk hg hk (by rw [ha]; exact I1.w) ?_ ?_ ?_ ?_ ?_ rfl rfl (fun x h1 h2 => by funext j; rw [mI_I, if_neg (fun z => h1 z.1)]) (fun j hj => ⟨by rw [mI_I, if_neg (fun z => hj z.2)], by rw [mI_I, if_neg (by omega)]⟩)
      · rw [ha, I_sI, if_pos ⟨rfl, rfl⟩, mI_I, if_pos ⟨rfl, rfl⟩]
      · rw [ha, I_sI, if_neg (by omega), mI_I, if_neg (by omega)]; exact k1
      · rw [ha, I_sI, if_neg (by omega)]
      · rw [mI_I, if_pos ⟨rfl, rfl⟩]; exact ⟨mm - z, by omega, rfl⟩
      · rw [mI_I, if_neg (by omega)]; exact ⟨pd, hpd, e1⟩
  · obtain ⟨lost, hlo⟩ : ∃ lost, lost = (z - mm - 1) / L := ⟨_, rfl⟩
    have hlb : lost ≤ 1000 := by rw [hlo]; exact Nat.le_trans (Nat.div_le_self _ _) (by omega)
    have hdiv : (nI z - nI mm - 1) / nI L = nI lost := by
      rw [pk_sub (by omega), show z - mm = (z - mm - 1) + 1 by omega, nI_pred, pk_div (by omega) (by omega) (by omega), hlo]
    have hh : t_I (s_I h a 0 0) a 1 = nI pd := by rw [I_sI, if_neg (by omega), k1, e1]
    have hl2 : t_I (s_I h a 0 0) a 2 = nI L := by rw [I_sI, if_neg (by omega), k2, hL]
    refine ⟨decide (0 < pd - lost), s_I (s_I h a 0 0) a 1 (nI (pd - lost)), ms_I (ms_I S 14 (2 * g + k) 0) 15 (2 * g + k) (nI (pd - lost)), ?_, ?_, ?_, I1.w.tr I1.w, (I1.w.tr I1.w).bx1 ka (by rw [I_sI, if_neg (by omega), I_sI, if_neg (by omega)]), rfl, rfl, rfl, fun x h1 h2 => by funext j; rw [mI_I, if_neg (fun z => h2 z.1), mI_I, if_neg (fun z => h1 z.1)]⟩
    · unfold fX1_take fX1_take_55
      rw [if_pos ka, k0, e0, if_pos (nI_lt (by omega) (by omega)), hl2, if_pos (show (1 : Int32) ≤ nI L from nI_le (a := 1) hL1 (by omega)), if_neg (nI_ne0 (by omega) (by omega)), hdiv, kd_sI, if_pos ka, hh, xmax_sub (by omega) (by omega)]
      have hv : t_I (s_I (s_I h a 0 0) a 1 (nI (pd - lost))) a 1 = nI (pd - lost) := by rw [I_sI, if_pos ⟨rfl, rfl⟩]
      rw [hv]
      by_cases hp0 : 0 < pd - lost
      · rw [if_neg (show ¬ nI (pd - lost) ≤ (0 : Int32) from nI_ge (a := 0) hp0 (by omega)), decide_eq_true hp0]
      · rw [show pd - lost = 0 by omega, if_pos (by decide)]; rfl
    · unfold fX9_runsOut fX9_runsOut_97
      have hpp : m_I (ms_I S 14 (2 * g + k) 0) 15 (2 * g + k) = nI pd := by rw [mI_I, if_neg (by omega), e1]
      have fin : ∀ v : Int32, v = nI (pd - lost) → (if xin (nI (2 * g + k)) 32 = true then (if xin (nI (2 * g + k)) 32 = true then (if (m_I (ms_I (ms_I S 14 (2 * g + k) 0) 15 (2 * g + k) v) 15 (2 * g + k)) = 0 then some (true, (ms_I (ms_I S 14 (2 * g + k) 0) 15 (2 * g + k) v)) else some (false, (ms_I (ms_I S 14 (2 * g + k) 0) 15 (2 * g + k) v))) else none) else none) = some (!decide (0 < pd - lost), ms_I (ms_I S 14 (2 * g + k) 0) 15 (2 * g + k) (nI (pd - lost))) := by
        intro v hv
        have hv2 : m_I (ms_I (ms_I S 14 (2 * g + k) 0) 15 (2 * g + k) v) 15 (2 * g + k) = v := by rw [mI_I, if_pos ⟨rfl, rfl⟩]
        rw [if_pos hx32, if_pos hx32, hv2, hv]
        by_cases hp0 : 0 < pd - lost
        · rw [if_neg (nI_ne0 hp0 (by omega)), decide_eq_true hp0]; rfl
        · rw [show pd - lost = 0 by omega, if_pos n00]; rfl
      rw [if_pos (xin_nI (show g < 16 by omega) (by omega)), clp (show g < 2 ^ 31 by omega), h12, hs, Option.bind_some, e2, if_pos hx32, hcl, e0, if_pos (nI_lt (by omega) (by omega)), hL, if_neg (nI_ne0 (by omega) (by omega)), hdiv, hpp]
      by_cases hpl : pd ≤ lost
      · rw [if_pos (nI_le hpl (by omega))]
        exact fin 0 (by rw [show pd - lost = 0 by omega]; rfl)
      · rw [if_neg (nI_ge (by omega) (by omega)), pk_sub (by omega)]
        exact fin _ rfl
    · refine H.clk hg hk (by rw [ha]; exact I1.w.tr I1.w) ?_ ?_ ?_ ?_ ?_ rfl rfl (fun x h1 h2 => by funext j; rw [mI_I, if_neg (fun z => h2 z.1), mI_I, if_neg (fun z => h1 z.1)]) (fun j hj => ⟨by rw [mI_I, if_neg (by omega), mI_I, if_neg (fun z => hj z.2)], by rw [mI_I, if_neg (fun z => hj z.2), mI_I, if_neg (by omega)]⟩)
      · rw [ha, I_sI, if_neg (by omega), I_sI, if_pos ⟨rfl, rfl⟩, mI_I, if_neg (by omega), mI_I, if_pos ⟨rfl, rfl⟩]
      · rw [ha, I_sI, if_pos ⟨rfl, rfl⟩, mI_I, if_pos ⟨rfl, rfl⟩]
      · rw [ha, I_sI, if_neg (by omega), I_sI, if_neg (by omega)]
      · rw [mI_I, if_neg (by omega), mI_I, if_pos ⟨rfl, rfl⟩]; exact ⟨0, by omega, rfl⟩
      · rw [mI_I, if_pos ⟨rfl, rfl⟩]; exact ⟨pd - lost, by omega, rfl⟩
end CLOCK
