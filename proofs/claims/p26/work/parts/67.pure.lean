/-! PURE 22: a game ends; the clocks. -/
section ENDS
variable {u mo : Nat} {h : TH} {S : MS} {t c s n G N P : Nat} {gm nd : Nat → Nat} {gl nl : Nat → List BW} {ol : List Nat} {kp : Nat → Bool}
/-- the class's objects behind the end of a game -/
def eH (h : TH) (c p C : Nat) (w : Int32) : TH := s_I (s_R (s_I h p 8 w) (c + 3) C (some p)) c 5 (nI (C + 1))
def eW (S : MS) (g E : Nat) (w : Int32) : MS := ms_i (ms_I (ms_I S 8 g w) 17 E (nI g)) 19 (nI (E + 1))
theorem Rel.ends (H : Rel u mo h S t c s n G N P gm nd gl nl ol kp) {g w : Nat} (hg : g < G) (h8 : m_I S 8 g = 0) (hw : w = 1 ∨ w = 2) {S2 : MS} (e : Eq12 (eW S g ol.length (nI w)) S2) (hr : Rky S2 n (ol ++ [g])) : Rel u mo (eH h c (gm g) (ol.filter kp).length (nI w)) S2 t c s n G N P gm nd gl nl (ol ++ [g]) (fun x => if x = g then true else kp x) := by
  have hk := (H.gM hg).k3
  obtain ⟨hlt, hno⟩ := H.ol_lt hg h8
  have hG16 := H.G16
  have hkc : t_kd h c = 2 := H.cb.1
  have hk12 : t_kd h (c + 3) = 12 := H.cb.2.2.2.2.1
  have hC : (ol.filter kp).length ≤ ol.length := List.length_filter_le _ _
  generalize hCd : (ol.filter kp).length = C at hC
  have hw0 : ¬ nI w = 0 := by rcases hw with rfl | rfl <;> decide
  unfold eH
  have A : Bx h (s_I (s_R (s_I h (gm g) 8 (nI w)) (c + 3) C (some (gm g))) c 5 (nI (C + 1))) := ((Bx.rf.I (Or.inr (Or.inr (Or.inr (Or.inr (Or.inr (Or.inl ⟨hk, by omega⟩))))))).R (Or.inr (Or.inl hk12))).I (Or.inr (Or.inr (Or.inl hkc)))
  have eI : ∀ a, a ≠ 1 → a ≠ 2 → a ≠ 8 → a ≠ 17 → m_I S2 a = m_I S a := fun a h1 h2 h4 h5 => by
    rw [e.2.2.1 a h1 h2]; unfold eW; funext j; rw [mI_i, mI_I, if_neg (fun z => h5 z.1), mI_I, if_neg (fun z => h4 z.1)]
  have e8 : ∀ i, m_I S2 8 i = if i = g then nI w else m_I S 8 i := fun i => by
    rw [e.2.2.1 8 (by omega) (by omega)]; unfold eW; simp [mI_i, mI_I]
  have e17 : ∀ i, m_I S2 17 i = if i = ol.length then nI g else m_I S 17 i := fun i => by
    rw [e.2.2.1 17 (by omega) (by omega)]; unfold eW; simp [mI_i, mI_I]
  have ei : ∀ k, k ≠ 19 → m_i S2 k = m_i S k := fun k hk => by rw [e.1]; unfold eW; rw [mi_i, if_neg hk]; rfl
  generalize hh2 : s_I (s_R (s_I h (gm g) 8 (nI w)) (c + 3) C (some (gm g))) c 5 (nI (C + 1)) = h2 at A
  have neI : ∀ a k, a ≠ gm g → a ≠ c → t_I h2 a k = t_I h a k := fun a k ha hb => by rw [← hh2, I_sI, if_neg (fun z => hb z.1), I_sR, I_sI, if_neg (fun z => ha z.1)]
  have neR : ∀ a k, a ≠ c + 3 → t_R h2 a k = t_R h a k := fun a k ha => by rw [← hh2, R_sI, R_sR, if_neg (fun z => ha z.1), R_sI]
  have hgc : gm g ≠ c := kd_ne (h := h) (by omega)
  have peI : ∀ k, k ≠ 8 → t_I h2 (gm g) k = t_I h (gm g) k := fun k hk2 => by rw [← hh2, I_sI, if_neg (fun z => hgc z.1), I_sR, I_sI, if_neg (fun z => hk2 z.2)]
  have p8 : t_I h2 (gm g) 8 = nI w := by rw [← hh2, I_sI, if_neg (fun z => hgc z.1), I_sR, I_sI, if_pos ⟨rfl, rfl⟩]
  have cI : ∀ k, k ≠ 5 → t_I h2 c k = t_I h c k := fun k hk2 => by rw [← hh2, I_sI, if_neg (fun z => hk2 z.2), I_sR, I_sI, if_neg (fun z => hgc z.1.symm)]
  have c5 : t_I h2 c 5 = nI (C + 1) := by rw [← hh2, I_sI, if_pos ⟨rfl, rfl⟩]
  have rC : ∀ j, t_R h2 (c + 3) j = if j = C then some (gm g) else t_R h (c + 3) j := fun j => by rw [← hh2, R_sI, R_sR, R_sI]; simp
  have hld : LDp mo h2 := by rw [← hh2]; exact H.2.2.2.2.2.2
  obtain ⟨h0, h1, h2', h3, h4, h5, h6⟩ := H
  refine ⟨h0.bx A, ?_, ?_, ?_, ?_, ?_, hld⟩
  · have := h1.bx (h2 := h2) (cI 1 (by omega)) (fun a _ => neI (c + 1) a (kd_ne (h := h) (by have := h0.2.2.2.1.2.1.2.1; omega)) (by omega))
    unfold R1 at *
    rw [ei 0 (by omega), eI 0 (by omega) (by omega) (by omega) (by omega)]
    exact this
  · obtain ⟨a1, a2, a3, a4, a5, a6⟩ := h2'
    refine ⟨a1, by rw [cI 3 (by omega)]; exact a2, by rw [ei 4 (by omega)]; exact a3, fun i hi => by rw [neR (c + 2) i (by omega)]; exact a4 i hi, a5, fun i hi => ?_⟩
    obtain ⟨b1, b2⟩ := a6 i hi
    have hci : ∀ k j, k < 2 → j < 2 → t_I h2 (gm i - 2 + k) j = t_I h (gm i - 2 + k) j := fun k j hk2 _ => by
      have := (b1.2.2.2.2.2.2.2.2.2.2.2 k hk2).1
      exact neI _ _ (kd_ne (h := h) (by omega)) (kd_ne (h := h) (by omega))
    have hp : PM u h2 S P (gm i) i (gl i) := by
      have k3 := b1.k3
      have k9 := b2.2.2.2.2.2.2.2.1
      exact b2.bx A b1.k3 (neR _ _ (kd_ne (h := h) (by omega))) (fun k hk2 => neI _ _ (kd_ne (h := h) (by omega)) (kd_ne (h := h) (by omega)))
    have w3 : ∀ L, L < P → m_J S2 18 L = m_J S 18 L ∧ m_J S2 19 L = m_J S 19 L ∧ m_I S2 20 L = m_I S 20 L := fun L _ => ⟨by rw [e.2.2.2]; rfl, by rw [e.2.2.2]; rfl, by rw [eI 20 (by omega) (by omega) (by omega) (by omega)]⟩
    by_cases hig : i = g
    · subst hig
      obtain ⟨k1, ⟨d1, d2, d3, d4⟩, k3, k4, k5, k6, k7, k8, k9⟩ := b1
      refine ⟨?_, ?_⟩
      · unfold GM MG
        rw [peI 2 (by omega), peI 0 (by omega), peI 1 (by omega), peI 9 (by omega), p8, eI 3 (by omega) (by omega) (by omega) (by omega), eI 4 (by omega) (by omega) (by omega) (by omega), eI 5 (by omega) (by omega) (by omega) (by omega), eI 6 (by omega) (by omega) (by omega) (by omega), eI 7 (by omega) (by omega) (by omega) (by omega), eI 9 (by omega) (by omega) (by omega) (by omega), e8, if_pos rfl]
        refine ⟨k1, ⟨A.kd d1, d2, rfl, d4⟩, k3, k4, k5, ⟨w, by omega, rfl⟩, k7, fun z => absurd z hw0, ?_⟩
        have := k9.bx A d1 hci
        unfold CK at *
        rw [eI 14 (by omega) (by omega) (by omega) (by omega), eI 15 (by omega) (by omega) (by omega) (by omega), eI 16 (by omega) (by omega) (by omega) (by omega)]
        exact this
      · obtain ⟨m1, m2, ⟨L, m3, m4⟩, m5, m6, m7, m8⟩ := hp
        refine ⟨m1, ?_, ⟨L, ?_, WM.cg w3 _ _ m4⟩, ?_, ?_, fun z => ?_, m8⟩
        · unfold bg at *
          rw [eI 7 (by omega) (by omega) (by omega) (by omega), eI 13 (by omega) (by omega) (by omega) (by omega)]; exact m2
        · rw [eI 11 (by omega) (by omega) (by omega) (by omega)]; exact m3
        · rw [eI 12 (by omega) (by omega) (by omega) (by omega)]; exact m5
        · rw [eI 13 (by omega) (by omega) (by omega) (by omega)]; exact m6
        · rw [e8, if_pos rfl] at z; exact absurd z hw0
    · have hne : gm i ≠ gm g := fun z => hig (a5 i g hi hg z)
      have hnc : gm i ≠ c := kd_ne (h := h) (by have := b1.k3; omega)
      refine ⟨(b1.bx A (neI _ _ hne hnc) (neI _ _ hne hnc) hci).cg (fun a h1 h2 => ?_) (fun k _ => ?_) ?_, hp.cg (Nat.le_refl _) (fun a ha => ?_) w3⟩
      · by_cases q2 : a = 8
        · subst q2; rw [e8, if_neg hig]
        · rw [eI a (by omega) (by omega) q2 (by omega)]
      · rw [eI 14 (by omega) (by omega) (by omega) (by omega), eI 15 (by omega) (by omega) (by omega) (by omega)]; exact ⟨rfl, rfl⟩
      · rw [eI 16 (by omega) (by omega) (by omega) (by omega)]
      · by_cases q2 : a = 8
        · subst q2; rw [e8, if_neg hig]
        · rw [eI a (by omega) (by omega) q2 (by omega)]
  · have hk3 : ∀ i, i < G → t_kd h (gm i) = 3 := fun i hi => (h2'.2.2.2.2.2 i hi).1.k3
    obtain ⟨a1, a2, a3, a4, a5, a6, a7, a8, a9, a10, a11⟩ := h3
    have hf : (ol ++ [g]).filter (fun x => if x = g then true else kp x) = ol.filter kp ++ [g] := by
      rw [List.filter_append, filter_upd hno]; simp
    refine ⟨fun j x hj => ?_, by rw [List.length_append]; simp; omega, ?_, ?_, fun x hx => ?_, fun x hx h => ?_, ?_, ?_, fun x hx hk2 => ?_, fun i hi => ?_, hr⟩
    · rw [e17]
      rw [List.getElem?_append] at hj
      split at hj
      · rename_i hlt2
        rw [if_neg (by omega)]; exact a1 j x hj
      · have : j - ol.length = 0 := by
          rcases Nat.eq_zero_or_pos (j - ol.length) with q | q
          · exact q
          · rw [List.getElem?_eq_none (by simp; omega)] at hj; cases hj
        rw [this] at hj
        simp at hj
        rw [if_pos (by omega), hj]
    · rw [e.1]; unfold eW; rw [mi_i, if_pos rfl, List.length_append]; rfl
    · rw [List.nodup_append]
      refine ⟨a4, List.nodup_cons.mpr ⟨by simp, List.nodup_nil⟩, fun x hx y hy e2 => ?_⟩
      simp at hy
      subst hy; subst e2
      exact hno hx
    · rw [e8]
      rcases List.mem_append.mp hx with hx | hx
      · obtain ⟨q1, q2⟩ := a5 x hx
        exact ⟨q1, by split; exact hw0; exact q2⟩
      · simp at hx
        subst hx
        exact ⟨hg, by rw [if_pos rfl]; exact hw0⟩
    · rw [e8] at h
      by_cases q : x = g
      · subst q; simp
      · rw [if_neg q] at h
        exact List.mem_append_left _ (a6 x hx h)
    · rw [hf, List.length_append, hCd]; exact c5
    · rw [hf]
      intro j x hj
      rw [rC]
      rw [List.getElem?_append] at hj
      split at hj
      · rename_i hlt2
        rw [if_neg (by omega)]; exact a8 j x hj
      · have : j - (ol.filter kp).length = 0 := by
          rcases Nat.eq_zero_or_pos (j - (ol.filter kp).length) with q | q
          · exact q
          · rw [List.getElem?_eq_none (by simp; omega)] at hj; cases hj
        rw [this] at hj
        simp at hj
        rw [if_pos (by omega), hj]
    · rw [eI 9 (by omega) (by omega) (by omega) (by omega)]
      rcases List.mem_append.mp hx with hx | hx
      · exact a9 x hx (by
          have q : x ≠ g := fun q => hno (by rw [← q]; exact hx)
          simpa [q] using hk2)
      · simp at hx
        simp [hx] at hk2
    · obtain ⟨et, b1, b2, b3⟩ := a10 i hi
      have hI3 : t_I h2 (gm i) 3 = t_I h (gm i) 3 := ((A.2 (gm i) (by have := hk3 i hi; omega)).2.2.2.2.1 (hk3 i hi)).1 3 (by omega)
      refine ⟨et, by rw [List.length_append]; omega, by rw [eI 10 (by omega) (by omega) (by omega) (by omega)]; exact b2, ?_⟩
      rw [hI3, b3, List.take_append_of_le_length b1, filter_upd (fun z => hno (List.mem_of_mem_take z))]
  · have hk5 : t_kd h s = 5 := h0.2.2.2.2.1
    have hk13 : t_kd h (s + 1) = 13 := h0.2.2.2.2.2.1.2.1
    refine h4.bx A (Nat.le_refl _) (fun g _ => ⟨[], rfl⟩) (fun i _ => by unfold bg; rw [eI 7 (by omega) (by omega) (by omega) (by omega)]) (fun a h1 h2 => eI a (by omega) (by omega) (by omega) (by omega)) (ei 36 (by omega)) ⟨by rw [e.2.2.2]; rfl, by rw [e.2.2.2]; rfl⟩ (neI s 2 (kd_ne (h := h) (by omega)) (kd_ne (h := h) (by omega))) (fun i _ => neR _ _ (kd_ne (h := h) (by omega))) (fun a ha => neI a 7 (kd_ne (h := h) (by omega)) (kd_ne (h := h) (by omega))) (fun i k hi _ => ?_)
    have k9 := (h4.2.2.2.2.2.2 i hi).2.2.2.2.1.2.1
    exact neI _ _ (kd_ne (h := h) (by omega)) (kd_ne (h := h) (by omega))
  · refine h5.eq (ei 21 (by omega)) (fun a j ha => ?_)
    by_cases q2 : a = 8
    · subst q2; rw [e8, if_neg (by omega)]
    · rw [eI a (by omega) (by omega) q2 (by omega)]
/-- both end a game alike -/
theorem ends_ok (H : Rel u mo h S t c s n G N P gm nd gl nl ol kp) {g w : Nat} (hg : g < G) (h8 : m_I S 8 g = 0) (hw : w = 0 ∨ w = 1) :
    ∃ h2 S2 kp2, fX2_end h c (some (gm g)) (nI (w + 1)) = some h2 ∧ fX9_ends S (nI g) (nI w) = some S2 ∧ Rel u mo h2 S2 t c s n G N P gm nd gl nl (ol ++ [g]) kp2 ∧ m_i S2 47 = m_i S 47 ∧ m_I S2 8 g = nI (w + 1) ∧ m_I S2 9 g = 0 ∧ t_I h2 (gm g) 8 = nI (w + 1) ∧ t_I h2 (gm g) 9 = 0 ∧ t_kd h2 (gm g) = 3 := by
  have hM := H.gM hg
  have hk := hM.k3
  obtain ⟨hlt, hno⟩ := H.ol_lt hg h8
  have hG16 := H.G16
  have hkc : t_kd h c = 2 := H.cb.1
  have hC : (ol.filter kp).length ≤ ol.length := List.length_filter_le _ _
  have hgc : gm g ≠ c := kd_ne (h := h) (by omega)
  have h5 := H.2.2.2.1.2.2.2.2.2.2.1
  have h19 := H.2.2.2.1.2.2.1
  obtain ⟨a, b, ha, hb, ha8, hb8, hab⟩ : ∃ a b, m_I S 5 g = nI a ∧ m_I S 6 g = nI b ∧ a < 8 ∧ b < 8 ∧ a ≠ b := by
    obtain ⟨-, ⟨-, -, -, a, b, -, ha, hb, -, ha8, hb8, hab, -⟩, -⟩ := hM
    exact ⟨a, b, ha, hb, ha8, hb8, hab⟩
  have h9 : m_I S 9 g = 0 := hM.2.2.2.2.2.2.2.1 h8
  obtain ⟨W, hW⟩ : ∃ W, W = eW S g ol.length (nI (w + 1)) := ⟨_, rfl⟩
  have w5 : ∀ x, x ≠ 8 → x ≠ 17 → m_I W x = m_I S x := fun x h1 h2 => by rw [hW]; unfold eW; funext j; rw [mI_i, mI_I, if_neg (fun z => h2 z.1), mI_I, if_neg (fun z => h1 z.1)]
  obtain ⟨S2, k1, k2, k3⟩ := counts_X9 W (g := g) (x := a) (y := b) (by omega) (by rw [w5 5 (by omega) (by omega)]; exact ha) (by rw [w5 6 (by omega) (by omega)]; exact hb) ha8 hb8 hab (by rw [w5 9 (by omega) (by omega)]; exact h9)
  have hr : Rky S2 n (ol ++ [g]) := fun x hx => by
    have h1 := k3 x hx
    rw [h1]
    show gst W x (m_I W 1 x, m_I W 2 x) g = _
    rw [w5 1 (by omega) (by omega), w5 2 (by omega) (by omega)]
    by_cases hxn : x < n
    · rw [H.rky.p H.2.1.1 hxn, if_pos hxn, stdF_12 k2]
      unfold stdF
      rw [List.foldl_append, w5 0 (by omega) (by omega)]
      have : ol.foldl (gst W x) (m_I S 0 x, 0) = ol.foldl (gst S x) (m_I S 0 x, 0) := gfold_q ol _ (fun y hy => by
        have hyg : y ≠ g := fun q => hno (by rw [← q]; exact hy)
        refine ⟨by rw [w5 9 (by omega) (by omega)], by rw [w5 5 (by omega) (by omega)], by rw [w5 6 (by omega) (by omega)], ?_⟩
        rw [hW]; unfold eW; simp [mI_i, mI_I, hyg])
      rw [this]; rfl
    · rw [if_neg hxn, H.rky.z x (by omega) hx]
      exact gst_out (by rw [w5 5 (by omega) (by omega), w5 6 (by omega) (by omega)]; exact (H.gM hg).on H.2.1.1) (by omega) hx
  have hRel := H.ends hg h8 (w := w + 1) (by omega) (by rw [← hW]; exact k2) hr
  refine ⟨_, S2, _, ?_, ?_, hRel, ?_, ?_, ?_, ?_, ?_, ?_⟩
  · unfold fX2_end
    have e5 : t_I (s_I h (gm g) 8 (nI (w + 1))) c 5 = nI (ol.filter kp).length := by rw [I_sI, if_neg (fun z => hgc z.1.symm)]; exact h5
    rw [Option.bind_some, if_pos hk, kd_sI, if_pos hkc, e5, if_neg (nI_pos (by omega)), R_sI, H.cb.2.2.2.1, Option.bind_some, if_pos H.cb.2.2.2.2.1, ln_sI, H.cb.2.2.2.2.2, if_neg (nI_ge (by omega) (by omega)), if_pos (xin_nI (by omega) (by omega)), clp (by omega)]
    have eall : (some (gm g)).all (fun b => t_kd h b == 3) = true := by simp [hk]
    rw [if_pos eall]
    have e5b : t_I (s_R (s_I h (gm g) 8 (nI (w + 1))) (c + 3) (ol.filter kp).length (some (gm g))) c 5 = nI (ol.filter kp).length := e5
    rw [e5b, nI_1]
    rfl
  · unfold fX9_ends
    have e19 : m_i (ms_I S 8 g (nI (w + 1))) 19 = nI ol.length := h19
    rw [if_pos (xin_nI (show g < 16 by omega) (by omega)), clp (show g < 2 ^ 31 by omega), nI_1, e19, if_pos (xin_nI (show ol.length < 16 by omega) (by omega)), Option.bind_some, clp (show ol.length < 2 ^ 31 by omega)]
    have e19b : m_i (ms_I (ms_I S 8 g (nI (w + 1))) 17 ol.length (nI g)) 19 = nI ol.length := h19
    rw [e19b, nI_1]
    have : ms_i (ms_I (ms_I S 8 g (nI (w + 1))) 17 ol.length (nI g)) 19 (nI (ol.length + 1)) = W := by rw [hW]; rfl
    rw [this, k1, Option.bind_some]
  · rw [k2.1, hW]; unfold eW; rw [mi_i, if_neg (by omega)]; rfl
  · rw [k2.2.2.1 8 (by omega) (by omega), hW]; unfold eW; simp [mI_i, mI_I]
  · rw [k2.2.2.1 9 (by omega) (by omega), w5 9 (by omega) (by omega)]; exact h9
  · unfold eH; rw [I_sI, if_neg (fun z => hgc z.1), I_sR, I_sI, if_pos ⟨rfl, rfl⟩]
  · unfold eH; rw [I_sI, if_neg (fun z => hgc z.1), I_sR, I_sI, if_neg (by omega), hM.2.1.2.1]; exact h9
  · exact hk
/-- resign -/
theorem wonAgainst_X3 (H : Rel u mo h S t c s n G N P gm nd gl nl ol kp) {g : Nat} (hg : g < G) {q : Nat} {x : BW} {l : List BW} (a1 : t_R h (gm g) 6 = some q) (a2 : WH h (bg S g) q (x :: l)) : ∃ w, (w = 0 ∨ w = 1) ∧ fX3_wonAgainstMover h (gm g) = some (nI (w + 1)) ∧ (1 : Int32) - nI ((bg S g + l.length) % 2) = nI w := by
  unfold fX3_wonAgainstMover
  rw [if_pos (H.gM hg).k3, a1, Option.bind_some, if_pos a2.1, a2.2.2.2.1]
  have : (bg S g + l.length) % 2 = 0 ∨ (bg S g + l.length) % 2 = 1 := by omega
  rcases this with e | e
  · rw [e, if_pos n00]; exact ⟨1, Or.inr rfl, rfl, rfl⟩
  · rw [e, if_neg (show ¬ nI 1 = 0 by decide)]; exact ⟨0, Or.inl rfl, rfl, rfl⟩
theorem requireGoesOn_X8 (H : Rel u mo h S t c s n G N P gm nd gl nl ol kp) {g : Nat} (hg : g < G) : fX8_requireGoesOn h (some (gm g)) = some (if m_I S 8 g = 0 then .inl h else .inr (eS, h)) := by
  have hM := (H.gM hg).2.1
  unfold fX8_requireGoesOn fX3_goesOn
  rw [Option.bind_some, if_pos hM.1, if_pos hM.1, hM.2.2.1]
  by_cases h8 : m_I S 8 g = 0
  · rw [if_pos h8, if_pos h8, Option.bind_some, if_neg tf]
  · rw [if_neg h8, if_neg h8, Option.bind_some, if_pos rfl]; rfl
theorem call_resign {K : Nat} (hK : K ≤ 4000) (H0 : RR mo t K h S) (x : Int32) : Agr mo t K [eI, eS] (fX8_resign h t x) (fX9_resign S x) := by
  obtain ⟨c, s, n, G, N, P, gm, nd, gl, nl, ol, kp, hP, H⟩ := id H0
  have h16 := H.G16
  unfold fX8_resign fX9_resign
  rw [if_pos H.1.1, isGame_X9 H, Option.bind_some]
  rcases matchOf_X8 H x with ⟨g, hg, rfl, e⟩ | ⟨e1, e⟩
  · rw [isN_nI hg (by omega), if_neg tf, e, Option.bind_some, xcs_1]
    dsimp only
    rw [requireGoesOn_X8 H hg, Option.bind_some, if_pos (xin_nI (show g < 16 by omega) (by omega)), clp (show g < 2 ^ 31 by omega)]
    by_cases h8 : m_I S 8 g = 0
    · rw [if_pos h8, if_pos h8, xcs_1, if_pos H.1.1, Option.bind_some, if_pos (H.gM hg).k3]
      obtain ⟨q, L, b, l, e0, a1, a2, a3, a4, a5, a6⟩ := H.pos hg
      obtain ⟨w, hw, w1, w2⟩ := wonAgainst_X3 H hg a1 a2
      have e47 : Sq n S (ms_i S 47 0) := Sq.f
      obtain ⟨h2, S2, kp2, k1, k2, k3, k4, k5, k6, k7, k8, k9⟩ := ends_ok (H.sq e47) hg (w := w) h8 hw
      rw [w1, Option.bind_some, H.1.2.1, Option.bind_some, if_pos H.cb.1, k1, Option.bind_some, if_pos k9]
      have ht : fX3_told h2 (gm g) = some (nI (w + 1)) := by
        unfold fX3_told; rw [if_pos k9, k8, if_pos rfl, k7]
      rw [ht, Option.bind_some]
      refine ⟨h2, S2, ⟨c, s, n, G, N, P, gm, nd, gl, nl, _, kp2, by omega, k3⟩, Or.inl ⟨nI (w + 1), rfl, ?_, k4.trans i47⟩⟩
      unfold fX9_resign_29
      rw [fails_0, Option.bind_some]
      dsimp only
      have hl : l.length < 5000 := by
        have := H.2.2.2.2.2.1.2.1 g hg
        rw [e0] at this
        simp only [List.length_cons] at this
        omega
      rw [if_pos rfl, if_pos (xin_nI (show g < 16 by omega) (by omega)), clp (show g < 2 ^ 31 by omega), mI_i, a6, sideOf_X9 (by omega) hl, Option.bind_some]
      have hbg : bg (ms_i S 47 0) g = bg S g := rfl
      rw [hbg, w2, k2, Option.bind_some, k5]
    · rw [if_neg h8, if_neg h8, xcs_2]
      exact Agr.err H0 (fun n => Sq.f) (j := 1) (E := eS) (b := 0) (S2 := ms_i S 47 2) rfl (by omega) rfl (by unfold fX9_resign_29; rw [fails_2]; rfl) i47
  · rw [e1, if_pos rfl, e, Option.bind_some, xcs_2]
    exact Agr.err H0 (fun n => Sq.f) (j := 0) (E := eI) (b := 0) (S2 := ms_i S 47 1) rfl (by omega) rfl (by unfold fX9_resign_29; rw [fails_1]; rfl) i47
end ENDS
