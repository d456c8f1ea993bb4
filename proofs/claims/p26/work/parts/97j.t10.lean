/-! P26 10: a game ends, a game is void: what changes besides ranks and strings. -/
section TEN
variable {u mo : Nat} {h : TH} {S : MS} {t c s n G N P : Nat} {gm nd : Nat → Nat} {gl nl : Nat → List BW} {ol : List Nat} {kp : Nat → Bool}
theorem void_E (H : Rel u mo h S t c s n G N P gm nd gl nl ol kp) {g : Nat} (hg : g < G) : ∃ kp2 S2, fX9_finds (vS S g ol.length) (m_i (vS S g ol.length) 19) = some S2 ∧ Rel u mo (vH h S (gm g) g) S2 t c s n G N P gm nd gl nl (vO S g ol) kp2 ∧ m_i S2 47 = m_i S 47 ∧ (∀ i, m_I S2 9 i = if i = g then 1 else m_I S 9 i) ∧ Eq12 (vS S g ol.length) S2 := by
  have h16 := H.G16
  have hG := H.gok
  have hord := H.2.2.2.1.1
  have hlen := H.2.2.2.1.2.1
  by_cases h8 : m_I S 8 g = 0
  · have e1 : vS S g ol.length = ms_i (ms_I (ms_I (ms_I S 9 g 1) 8 g 2) 17 ol.length (nI g)) 19 (nI (ol.length + 1)) := by unfold vS; rw [if_pos h8]
    have e2 : vH h S (gm g) g = s_I (s_I h (gm g) 9 1) (gm g) 8 2 := by unfold vH; rw [if_pos h8]
    have e3 : vO S g ol = ol ++ [g] := by unfold vO; rw [if_pos h8]
    rw [e1, e2, e3]
    obtain ⟨hlt, hno⟩ := H.ol_lt hg h8
    generalize hW : ms_i (ms_I (ms_I (ms_I S 9 g 1) 8 g 2) 17 ol.length (nI g)) 19 (nI (ol.length + 1)) = W
    have w9 : ∀ i, m_I W 9 i = if i = g then 1 else m_I S 9 i := fun i => by rw [← hW]; simp [mI_i, mI_I]
    have w17 : ∀ i, m_I W 17 i = if i = ol.length then nI g else m_I S 17 i := fun i => by rw [← hW]; simp [mI_i, mI_I]
    have w5 : m_I W 5 = m_I S 5 := by rw [← hW]; funext i; simp [mI_i, mI_I]
    have w6 : m_I W 6 = m_I S 6 := by rw [← hW]; funext i; simp [mI_i, mI_I]
    have w1 : m_I W 1 = m_I S 1 := by rw [← hW]; funext i; simp [mI_i, mI_I]
    have w2 : m_I W 2 = m_I S 2 := by rw [← hW]; funext i; simp [mI_i, mI_I]
    have wi : ∀ k, k ≠ 19 → m_i W k = m_i S k := fun k hk => by rw [← hW, mi_i, if_neg hk]; rfl
    have wl : (ol ++ [g]).length = ol.length + 1 := by rw [List.length_append]; rfl
    obtain ⟨S2, k1, k2, k3⟩ := finds_X9 (l := ol ++ [g]) (S := W) H.2.1.1 (by rw [wl]; omega) (by rw [wi 0 (by omega)]; exact H.2.1.2.2.1) (fun x hx => by
      rw [w9, w5, w6]
      rcases List.mem_append.mp hx with hx | hx
      · obtain ⟨q1, q2, q3⟩ := hG x hx
        exact ⟨q1, by split; exact Or.inr rfl; exact q2, q3⟩
      · simp at hx
        subst hx
        obtain ⟨-, ⟨-, -, -, a, b, -, ha, hb, -, ha8, hb8, hab, -⟩, -⟩ := H.gM hg
        exact ⟨by omega, Or.inr (by rw [if_pos rfl]), a, b, ha, hb, ha8, hb8, hab⟩) (fun j x hj => by
      rw [w17]
      rw [List.getElem?_append] at hj
      split at hj
      · rename_i hlt2
        rw [if_neg (by omega)]; exact hord j x hj
      · have : j - ol.length = 0 := by
          rcases Nat.eq_zero_or_pos (j - ol.length) with q | q
          · exact q
          · rw [List.getElem?_eq_none (by simp; omega)] at hj; cases hj
        rw [this] at hj
        simp at hj
        rw [if_pos (by omega), hj]) (fun x hx => by
      rw [w5, w6]
      rcases List.mem_append.mp hx with hx | hx
      · exact H.gon x hx
      · simp at hx
        subst hx
        exact (H.gM hg).on H.2.1.1) (fun b h1 h2 => by rw [w1, w2]; exact H.rky.z b h1 h2)
    have w19 : m_i W 19 = nI (ol ++ [g]).length := by rw [wl, ← hW, mi_i, if_pos rfl]
    refine ⟨_, S2, by rw [w19]; exact k1, H.void_0 hg h8 (by rw [hW]; exact k2) (fun b hb => by rw [k3 b hb, stdF_12 k2]), by rw [k2.1, wi 47 (by omega)], fun i => by rw [k2.2.2.1 9 (by omega) (by omega)]; exact w9 i, k2⟩
  · have e1 : vS S g ol.length = ms_I S 9 g 1 := by unfold vS; rw [if_neg h8]
    have e2 : vH h S (gm g) g = s_I h (gm g) 9 1 := by unfold vH; rw [if_neg h8]
    have e3 : vO S g ol = ol := by unfold vO; rw [if_neg h8]
    rw [e1, e2, e3]
    have w9 : ∀ i, m_I (ms_I S 9 g 1) 9 i = if i = g then 1 else m_I S 9 i := fun i => by simp [mI_I]
    have wo : ∀ a, a ≠ 9 → m_I (ms_I S 9 g 1) a = m_I S a := fun a ha => by funext i; rw [mI_I, if_neg (fun z => ha z.1)]
    obtain ⟨S2, k1, k2, k3⟩ := finds_X9 (l := ol) (S := ms_I S 9 g 1) H.2.1.1 hlen H.2.1.2.2.1 (fun x hx => by
      rw [w9, wo 5 (by omega), wo 6 (by omega)]
      obtain ⟨q1, q2, q3⟩ := hG x hx
      exact ⟨q1, by split; exact Or.inr rfl; exact q2, q3⟩) (fun j x hj => by rw [wo 17 (by omega)]; exact hord j x hj) (fun x hx => by rw [wo 5 (by omega), wo 6 (by omega)]; exact H.gon x hx) (fun b h1 h2 => by rw [wo 1 (by omega), wo 2 (by omega)]; exact H.rky.z b h1 h2)
    refine ⟨kp, S2, by rw [show m_i (ms_I S 9 g 1) 19 = m_i S 19 from rfl, H.2.2.2.1.2.2.1]; exact k1, H.void_1 hg h8 k2 (fun b hb => by rw [k3 b hb, stdF_12 k2]), by rw [k2.1]; rfl, fun i => by rw [k2.2.2.1 9 (by omega) (by omega)]; exact w9 i, k2⟩
theorem ends_E (H : Rel u mo h S t c s n G N P gm nd gl nl ol kp) {g w : Nat} (hg : g < G) (h8 : m_I S 8 g = 0) (hw : w = 0 ∨ w = 1) :
    ∃ h2 S2 kp2, fX2_end h c (some (gm g)) (nI (w + 1)) = some h2 ∧ fX9_ends S (nI g) (nI w) = some S2 ∧ Rel u mo h2 S2 t c s n G N P gm nd gl nl (ol ++ [g]) kp2 ∧ m_i S2 47 = m_i S 47 ∧ m_I S2 8 g = nI (w + 1) ∧ m_I S2 9 g = 0 ∧ t_I h2 (gm g) 8 = nI (w + 1) ∧ t_I h2 (gm g) 9 = 0 ∧ t_kd h2 (gm g) = 3 ∧ Eq12 (eW S g ol.length (nI (w + 1))) S2 := by
  have hM := H.gM hg
  have hk := hM.k3
  obtain ⟨hlt, hno⟩ := H.ol_lt hg h8
  have hG16 := H.G16
  have hkc : t_kd h c = 2 := H.cb.1
  have hC : (ol.filter kp).length ≤ ol.length := List.length_filter_le _ _
  have hgc : gm g ≠ c := kd_ne (h := h) (by omega)
  have h5 := H.2.2.2.1.2.2.2.2.2.2.1
  have h19 := H.2.2.2.1.2.2.1
  obtain ⟨a, b, ha, hb, ha8, hb8, hab⟩ : ∃ a b, m_I S 5 g = nI a ∧ m_I S 6 g = nI b ∧ a < 8 ∧ b < 8 ∧ a ≠ b := by
    obtain ⟨-, ⟨-, -, -, a, b, -, ha, hb, -, ha8, hb8, hab, -⟩, -⟩ := hM
    exact ⟨a, b, ha, hb, ha8, hb8, hab⟩
  have h9 : m_I S 9 g = 0 := hM.2.2.2.2.2.2.2.1 h8
  obtain ⟨W, hW⟩ : ∃ W, W = eW S g ol.length (nI (w + 1)) := ⟨_, rfl⟩
  have w5 : ∀ x, x ≠ 8 → x ≠ 17 → m_I W x = m_I S x := fun x h1 h2 => by rw [hW]; unfold eW; funext j; rw [mI_i, mI_I, if_neg (fun z => h2 z.1), mI_I, if_neg (fun z => h1 z.1)]
  obtain ⟨S2, k1, k2, k3⟩ := counts_X9 W (g := g) (x := a) (y := b) (by omega) (by rw [w5 5 (by omega) (by omega)]; exact ha) (by rw [w5 6 (by omega) (by omega)]; exact hb) ha8 hb8 hab (by rw [w5 9 (by omega) (by omega)]; exact h9)
  have hr : Rky S2 n (ol ++ [g]) := fun x hx => by
    have h1 := k3 x hx
    rw [h1]
    show gst W x (m_I W 1 x, m_I W 2 x) g = _
    rw [w5 1 (by omega) (by omega), w5 2 (by omega) (by omega)]
    by_cases hxn : x < n
    · rw [H.rky.p H.2.1.1 hxn, if_pos hxn, stdF_12 k2]
      unfold stdF
      rw [List.foldl_append, w5 0 (by omega) (by omega)]
      have : ol.foldl (gst W x) (m_I S 0 x, 0) = ol.foldl (gst S x) (m_I S 0 x, 0) := gfold_q ol _ (fun y hy => by
        have hyg : y ≠ g := fun q => hno (by rw [← q]; exact hy)
        refine ⟨by rw [w5 9 (by omega) (by omega)], by rw [w5 5 (by omega) (by omega)], by rw [w5 6 (by omega) (by omega)], ?_⟩
        rw [hW]; unfold eW; simp [mI_i, mI_I, hyg])
      rw [this]; rfl
    · rw [if_neg hxn, H.rky.z x (by omega) hx]
      exact gst_out (by rw [w5 5 (by omega) (by omega), w5 6 (by omega) (by omega)]; exact (H.gM hg).on H.2.1.1) (by omega) hx
  have hRel := H.ends hg h8 (w := w + 1) (by omega) (by rw [← hW]; exact k2) hr
  refine ⟨_, S2, _, ?_, ?_, hRel, ?_, ?_, ?_, ?_, ?_, ?_, by rw [← hW]; exact k2⟩
  · unfold fX2_end
    have e5 : t_I (s_I h (gm g) 8 (nI (w + 1))) c 5 = nI (ol.filter kp).length := by rw [I_sI, if_neg (fun z => hgc z.1.symm)]; exact h5
    rw [Option.bind_some, if_pos hk, kd_sI, if_pos hkc, e5, if_neg (nI_pos (by omega)), R_sI, H.cb.2.2.2.1, Option.bind_some, if_pos H.cb.2.2.2.2.1, ln_sI, H.cb.2.2.2.2.2, if_neg (nI_ge (by omega) (by omega)), if_pos (xin_nI (by omega) (by omega)), clp (by omega)]
    have eall : (some (gm g)).all (fun b => t_kd h b == 3) = true := by simp [hk]
    rw [if_pos eall]
    have e5b : t_I (s_R (s_I h (gm g) 8 (nI (w + 1))) (c + 3) (ol.filter kp).length (some (gm g))) c 5 = nI (ol.filter kp).length := e5
    rw [e5b, nI_1]
    rfl
  · unfold fX9_ends
    have e19 : m_i (ms_I S 8 g (nI (w + 1))) 19 = nI ol.length := h19
    rw [if_pos (xin_nI (show g < 16 by omega) (by omega)), clp (show g < 2 ^ 31 by omega), nI_1, e19, if_pos (xin_nI (show ol.length < 16 by omega) (by omega)), Option.bind_some, clp (show ol.length < 2 ^ 31 by omega)]
    have e19b : m_i (ms_I (ms_I S 8 g (nI (w + 1))) 17 ol.length (nI g)) 19 = nI ol.length := h19
    rw [e19b, nI_1]
    have : ms_i (ms_I (ms_I S 8 g (nI (w + 1))) 17 ol.length (nI g)) 19 (nI (ol.length + 1)) = W := by rw [hW]; rfl
    rw [this, k1, Option.bind_some]
  · rw [k2.1, hW]; unfold eW; rw [mi_i, if_neg (by omega)]; rfl
  · rw [k2.2.2.1 8 (by omega) (by omega), hW]; unfold eW; simp [mI_i, mI_I]
  · rw [k2.2.2.1 9 (by omega) (by omega), w5 9 (by omega) (by omega)]; exact h9
  · unfold eH; rw [I_sI, if_neg (fun z => hgc z.1), I_sR, I_sI, if_pos ⟨rfl, rfl⟩]
  · unfold eH; rw [I_sI, if_neg (fun z => hgc z.1), I_sR, I_sI, if_neg (by omega), hM.2.1.2.1]; exact h9
  · exact hk
end TEN
