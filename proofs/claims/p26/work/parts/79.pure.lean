/-! PURE 34: both make a game. -/
section GAME4
variable {u mo : Nat} {h : TH} {S : MS} {t c s n G N P : Nat} {gm nd : Nat → Nat} {gl nl : Nat → List BW} {ol : List Nat} {kp : Nat → Bool}
/-- the reference's new state, by rows -/
theorem gS_I {S : MS} {G P : Nat} {a b bl wh hd e a3 a4 a5 : Int32} {v : Int64} {r j : Nat} : m_I (gC (gK (gW (ms_i S 47 0) G a b bl wh hd e) G P v a5) G a3 a4) r j =
    if r = 15 ∧ j = 2 * G + 1 then a4 else if r = 14 ∧ j = 2 * G + 1 then a3 else if r = 15 ∧ j = 2 * G then a4 else if r = 14 ∧ j = 2 * G then a3 else if r = 16 ∧ j = G then a5 else if r = 11 ∧ j = G then nI P else if r = 20 ∧ j = P then -1 else
    if r = 10 ∧ j = G then e else if r = 7 ∧ j = G then hd else if r = 6 ∧ j = G then wh else if r = 5 ∧ j = G then bl else if r = 4 ∧ j = G then b else if r = 3 ∧ j = G then a else m_I S r j := by
  unfold gC gK gW
  rw [mI_i, mI_I, mI_I, mI_I, mI_I, mI_I, mI_I, mI_i, mI_I, mI_J, mI_J, mI_I, mI_I, mI_I, mI_I, mI_I, mI_I, mI_i]
theorem gS_i {S : MS} {G P : Nat} {a b bl wh hd e a3 a4 a5 : Int32} {v : Int64} {k : Nat} : m_i (gC (gK (gW (ms_i S 47 0) G a b bl wh hd e) G P v a5) G a3 a4) k = if k = 4 then nI (G + 1) else if k = 21 then nI (P + 1) else if k = 47 then 0 else m_i S k := by
  unfold gC gK gW
  rw [mi_i, mi_I, mi_I, mi_I, mi_I, mi_I, mi_I, mi_i, mi_I, mi_J, mi_J, mi_I, mi_I, mi_I, mi_I, mi_I, mi_I, mi_i]
theorem gS_J {S : MS} {G P : Nat} {a b bl wh hd e a3 a4 a5 : Int32} {v : Int64} {r j : Nat} : m_J (gC (gK (gW (ms_i S 47 0) G a b bl wh hd e) G P v a5) G a3 a4) r j = if r = 19 ∧ j = P then 0 else if r = 18 ∧ j = P then v else m_J S r j := by
  unfold gC gK gW
  rw [mJ_i, mJ_I, mJ_I, mJ_I, mJ_I, mJ_I, mJ_I, mJ_i, mJ_I, mJ_J, mJ_J, mJ_I, mJ_I, mJ_I, mJ_I, mJ_I, mJ_I, mJ_i]
/-- colours and handicap of a pairing -/
theorem pair_ok (H : Rel u mo h S t c s n G N P gm nd gl nl ol kp) {a b : Nat} (ha : a < n) (hb : b < n) (hab : a ≠ b) : ∃ x y hc, x < 8 ∧ y < 8 ∧ x ≠ y ∧ hc < 5 ∧ pairV S a b ol = nI (100 * x + 10 * y + hc) ∧ ((x = a ∧ y = b) ∨ (x = b ∧ y = a)) ∧ nI a + nI b - nI x = nI y ∧
    (∀ W : MS, m_I W 1 = m_I S 1 → fX9_blackOf W (nI a) (nI b) = some (nI x)) ∧ ∀ W : MS, m_I W 1 = m_I S 1 → fX9_handicapOf W (nI a) (nI b) = some (nI hc) := by
  have h8 := H.2.1.1
  have ra := H.rky.r h8 ha
  have rb := H.rky.r h8 hb
  obtain ⟨r, hr, er⟩ := rdom_r _ (stdF_dom (l := ol) (H.2.1.2.2.2 a ha).2)
  obtain ⟨w, hw, ew⟩ := rdom_r _ (stdF_dom (l := ol) (H.2.1.2.2.2 b hb).2)
  obtain ⟨hc, hc5, hce⟩ := hdc_le r hr w hw
  have hcap : ∀ W : MS, m_I W 1 = m_I S 1 → fX9_handicapOf W (nI a) (nI b) = some (nI hc) := fun W e => by
    rw [handicapOf_X9 (S := W) (show a < 8 by omega) (show b < 8 by omega) (by rw [e]; exact ra.trans er) (by rw [e]; exact rb.trans ew) hr hw, e, ra.trans er, rb.trans ew, hce]
  have hblk : ∀ W : MS, m_I W 1 = m_I S 1 → fX9_blackOf W (nI a) (nI b) = some (if m_I S 1 b < m_I S 1 a then nI b else nI a) := fun W e => by
    rw [blackOf_X9 (S := W) (show a < 8 by omega) (show b < 8 by omega), e]
  unfold pairV
  rw [er, ew, hce]
  rw [ra.trans er, rb.trans ew] at hblk
  by_cases hlt : nI w < nI r
  · refine ⟨b, a, hc, by omega, by omega, fun z => hab z.symm, hc5, ?_, Or.inr ⟨rfl, rfl⟩, nI_swap2 a b, fun W e => ?_, hcap⟩
    · rw [if_pos hlt, i32_100, i32_10, pk_mul, pk_mul, nI_add, nI_add]
    · rw [hblk W e, if_pos hlt]
  · refine ⟨a, b, hc, by omega, by omega, hab, hc5, ?_, Or.inl ⟨rfl, rfl⟩, nI_swap a b, fun W e => ?_, hcap⟩
    · rw [if_neg hlt, i32_100, i32_10, pk_mul, pk_mul, nI_add, nI_add]
    · rw [hblk W e, if_neg hlt]
/-- both make a game -/
theorem game_ok (H : Rel 16 mo h S t c s n G N P gm nd gl nl ol kp) (hP : P < 4096) {a b p a3 a4 a5 : Nat} (ha : a < n) (hb : b < n) (hab : a ≠ b) (hG : G < 16) (hza : bz S a 0 G = false) (hzb : bz S b 0 G = false) (hp : t_sz h = p + 2) (hk : ∀ k, k < 2 → t_kd h (p + k) = 1 ∧ t_I h (p + k) 0 = nI a3 ∧ t_I h (p + k) 1 = nI a4 ∧ t_I h (p + k) 2 = nI a5)
    (h3 : a3 < 3601) (h4 : a4 < 6) (h5 : 1 ≤ a5) (h5' : a5 < 61) : ∃ h2 S2 gm2 gl2, fX2_begin h c (nI a) (nI b) (some p) (some (p + 1)) = some (nI G, h2) ∧ fX9_game_116 S (nI a) (nI b) (nI a3) (nI a4) (nI a5) 0 = some (nI G, S2) ∧ Rel 16 mo h2 S2 t c s n (G + 1) N (P + 1) gm2 nd gl2 nl ol kp ∧ m_i S2 47 = 0 := by
  obtain ⟨x, y, hc, hx8, hy8, hxy, hc5, hpr, h01, hsw, hbl, hha⟩ := pair_ok H ha hb hab
  have h8 := H.2.1.1
  have hol := H.2.2.2.1.2.1
  have hld := H.2.2.2.2.2.2
  have hkc : t_kd h c = 2 := H.cb.1
  have k12 : t_kd h (c + 2) = 12 := H.cb.2.2.1.2.1
  have hlen : (ol.filter kp).length ≤ 16 := Nat.le_trans (List.length_filter_le _ _) hol
  have hr1 := H.2.1.2.2.2
  have hpair : fX2_pairing h c (nI a) (nI b) (nI (ol.filter kp).length) = some (nI (100 * x + 10 * y + hc)) := by
    rw [pairing_X2 (S := S) (gm := gm) H.cb (by omega) (by omega) hlen H.2.2.2.1.2.2.2.2.2.2.2.1 (fun g hg => H.mg (List.mem_filter.mp hg).1) (hr1 a ha).2 (hr1 a ha).1 (hr1 b hb).2 (hr1 b hb).1]
    have hf : ∀ q, stdF S q (ol.filter kp) = stdF S q ol := fun q => gfold_filter _ _ (fun g hg hk => H.2.2.2.1.2.2.2.2.2.2.2.2.1 g hg hk)
    rw [← hpr]
    unfold pairV
    rw [hf, hf]
  obtain ⟨h2, b1, X2, L2, kd3, i0, i1, i2, i3, i8, i9, r4, r5, r7, r6, kd9, ln49, kept, wh2, ps0⟩ := init_X3 (mo := mo) (h := h) (a := nI a) (b := nI b) (c5 := nI (ol.filter kp).length) (k1 := some p) (k2 := some (p + 1)) hld hx8 hy8 hc5
  have hz0 := hld.z
  have hcz : c ≠ t_sz h := fun e => by rw [e] at hkc; omega
  have e5 : t_I (s_N h 3 0) c 5 = nI (ol.filter kp).length := by rw [I_sN, if_neg hcz]; exact H.2.2.2.1.2.2.2.2.2.2.1
  have ek2 : t_kd (s_N h 3 0) c = 2 := by rw [kd_sN, if_neg hcz]; exact hkc
  have k12' := X2.1.kd k12
  have ln16 := X2.1.ln k12 H.cb.2.2.1.2.2
  have kc' := X2.1.kd hkc
  have e3 : t_I (s_R h2 (c + 2) G (some (t_sz h))) c 3 = nI G := by rw [I_sR, (X2.2 c (by omega)).1]; exact H.2.2.1.2.1
  have eall : (some (t_sz h)).all (fun b => t_kd h2 b == 3) = true := by simp [kd3]
  have hbeg : fX2_begin h c (nI a) (nI b) (some p) (some (p + 1)) = some (nI G, s_I (s_R h2 (c + 2) G (some (t_sz h))) c 3 (nI (G + 1))) := by
    unfold fX2_begin
    rw [if_pos hkc, isBusy_X2 H, Option.bind_some, hza, if_pos rfl, isBusy_X2 H, Option.bind_some, hzb, if_pos rfl, H.2.2.1.2.1, if_neg (nI_pos (by omega)), H.cb.2.2.1.1, Option.bind_some, if_pos k12, H.cb.2.2.1.2.2, if_pos (nI_lt hG (by omega)), H.2.2.2.1.2.2.2.2.2.2.1, hpair, Option.bind_some, if_pos ek2, e5, b1, Option.bind_some, if_pos k12', ln16, if_pos (xin_nI hG (by omega)), clp (show G < 2 ^ 31 by omega), if_pos eall, kd_sR, if_pos kc', e3, nI_1, Option.bind_some]
  have hgame := game_116 (S := S) (a3 := nI a3) (a4 := nI a4) (a5 := nI a5) hG hP H.2.2.1.2.2.1 H.2.2.2.1.2.2.1 H.2.2.2.2.2.1.1 hc5 hbl hsw hha
  have hcz2 : t_sz h ≠ c + 2 := fun e => by rw [← e] at k12; omega
  have fI : ∀ q j, q ≠ c → t_I (s_I (s_R h2 (c + 2) G (some (t_sz h))) c 3 (nI (G + 1))) q j = t_I h2 q j := fun q j b2 => by rw [I_sI, if_neg (fun z => b2 z.1), I_sR]
  have fR : ∀ q j, q ≠ c + 2 → t_R (s_I (s_R h2 (c + 2) G (some (t_sz h))) c 3 (nI (G + 1))) q j = t_R h2 q j := fun q j b2 => by rw [R_sI, R_sR, if_neg (fun z => b2 z.1)]
  have fk : t_kd (s_I (s_R h2 (c + 2) G (some (t_sz h))) c 3 (nI (G + 1))) = t_kd h2 := by rw [kd_sI, kd_sR]
  have fl2 : t_ln (s_I (s_R h2 (c + 2) G (some (t_sz h))) c 3 (nI (G + 1))) = t_ln h2 := by rw [ln_sI, ln_sR]
  have A : Bx h (s_I (s_R h2 (c + 2) G (some (t_sz h))) c 3 (nI (G + 1))) := (X2.1.R (Or.inr (Or.inl k12))).I (Or.inr (Or.inr (Or.inl hkc)))
  have A2 : Bx h2 (s_I (s_R h2 (c + 2) G (some (t_sz h))) c 3 (nI (G + 1))) := (Bx.rf.R (Or.inr (Or.inl k12'))).I (Or.inr (Or.inr (Or.inl kc')))
  have hI : ∀ q j, t_kd h q ≠ 0 → ¬ (q = c ∧ j = 3) → t_I (s_I (s_R h2 (c + 2) G (some (t_sz h))) c 3 (nI (G + 1))) q j = t_I h q j := fun q j b1 b2 => by rw [I_sI, if_neg b2, I_sR, (X2.2 q b1).1]
  have hR : ∀ q j, t_kd h q ≠ 0 → ¬ (q = c + 2 ∧ j = G) → t_R (s_I (s_R h2 (c + 2) G (some (t_sz h))) c 3 (nI (G + 1))) q j = t_R h q j := fun q j b1 b2 => by rw [R_sI, R_sR, if_neg b2, (X2.2 q b1).2]
  have hc3 : t_I (s_I (s_R h2 (c + 2) G (some (t_sz h))) c 3 (nI (G + 1))) c 3 = nI (G + 1) := by rw [I_sI, if_pos ⟨rfl, rfl⟩]
  have hcG : t_R (s_I (s_R h2 (c + 2) G (some (t_sz h))) c 3 (nI (G + 1))) (c + 2) G = some (t_sz h) := by rw [R_sI, R_sR, if_pos ⟨rfl, rfl⟩]
  have hLD : LDp mo (s_I (s_R h2 (c + 2) G (some (t_sz h))) c 3 (nI (G + 1))) := LDp.I (LDp.R L2)
  have c1 : t_sz h + 1 ≠ c := fun e => by
    have := hld.2.2 (t_sz h + 1) (by omega)
    rw [e] at this; omega
  have c2 : t_sz h + 2 ≠ c := fun e => by
    have := hld.2.2 (t_sz h + 2) (by omega)
    rw [e] at this; omega
  generalize s_I (s_R h2 (c + 2) G (some (t_sz h))) c 3 (nI (G + 1)) = h3' at hbeg fI fR fk fl2 A A2 hI hR hc3 hcG hLD
  have sI := fun (r j : Nat) => gS_I (S := S) (G := G) (P := P) (a := nI a) (b := nI b) (bl := nI x) (wh := nI y) (hd := nI hc) (e := nI ol.length) (a3 := nI a3) (a4 := nI a4) (a5 := nI a5) (v := stB hc) (r := r) (j := j)
  have si := fun (k : Nat) => gS_i (S := S) (G := G) (P := P) (a := nI a) (b := nI b) (bl := nI x) (wh := nI y) (hd := nI hc) (e := nI ol.length) (a3 := nI a3) (a4 := nI a4) (a5 := nI a5) (v := stB hc) (k := k)
  have sJ := fun (r j : Nat) => gS_J (S := S) (G := G) (P := P) (a := nI a) (b := nI b) (bl := nI x) (wh := nI y) (hd := nI hc) (e := nI ol.length) (a3 := nI a3) (a4 := nI a4) (a5 := nI a5) (v := stB hc) (r := r) (j := j)
  generalize gC (gK (gW (ms_i S 47 0) G (nI a) (nI b) (nI x) (nI y) (nI hc) (nI ol.length)) G P (stB hc) (nI a5)) G (nI a3) (nI a4) = S3 at hgame sI si sJ
  have hV := H.2.2.2.2.2.1.2.2.1 G (Nat.le_refl _) hG
  have v3 : m_I S3 3 G = nI a := by rw [sI]; simp
  have v4 : m_I S3 4 G = nI b := by rw [sI]; simp
  have v5 : m_I S3 5 G = nI x := by rw [sI]; simp
  have v6 : m_I S3 6 G = nI y := by rw [sI]; simp
  have v7 : m_I S3 7 G = nI hc := by rw [sI]; simp
  have v8 : m_I S3 8 G = 0 := by rw [sI]; simp [hV.1]
  have v9 : m_I S3 9 G = 0 := by rw [sI]; simp [hV.2.1]
  have v10 : m_I S3 10 G = nI ol.length := by rw [sI]; simp
  have v11 : m_I S3 11 G = nI P := by rw [sI]; simp
  have v12 : m_I S3 12 G = 0 := by rw [sI]; simp [hV.2.2.1]
  have v13 : m_I S3 13 G = 0 := by rw [sI]; simp [hV.2.2.2]
  have v16 : m_I S3 16 G = nI a5 := by rw [sI]; simp
  have v20 : m_I S3 20 P = -1 := by rw [sI]; simp
  have v14 : ∀ k, k < 2 → m_I S3 14 (2 * G + k) = nI a3 ∧ m_I S3 15 (2 * G + k) = nI a4 := fun k hk2 => by
    have : k = 0 ∨ k = 1 := by omega
    rcases this with rfl | rfl
    · constructor <;> rw [sI] <;> simp
    · constructor <;> rw [sI] <;> simp
  have w18 : m_J S3 18 P = stB hc := by rw [sJ]; simp
  have w19 : m_J S3 19 P = 0 := by rw [sJ]; simp
  have ebg : bg S3 G = if hc ≤ 1 then 0 else 1 := by
    unfold bg
    rw [v7]
    by_cases q : hc ≤ 1
    · rw [if_pos q, if_pos (show nI hc ≤ (1 : Int32) from nI_le (b := 1) q (by omega))]
    · rw [if_neg q, if_neg (show ¬ nI hc ≤ (1 : Int32) from nI_ge (a := 1) (by omega) (by omega))]
  have hok : OKB (stB hc, (0 : Int64)) := stB_ok
  refine ⟨h3', S3, _, _, hbeg, hgame, H.game hG (z := t_sz h) (b := (stB hc, 0)) A hz0 hI hR hc3 hcG hLD (fun k b1 b2 b3 => by rw [si, if_neg b1, if_neg b2, if_neg b3]) (by rw [si, if_pos rfl]) (by rw [si, if_neg (by omega), if_pos rfl]) (fun r hr => ?_) (fun r j b1 b2 b3 b4 => ?_) (fun j hj => ⟨?_, ?_⟩) (fun L hL => ⟨?_, ?_, ?_⟩) (fun r b1 b2 => ?_) ?_ ?_ v10 (by rw [fI _ _ hcz.symm]; exact i3), by rw [si, if_neg (by omega), if_neg (by omega), if_pos rfl]⟩
  · funext j; rw [sI, if_neg (by omega), if_neg (by omega), if_neg (by omega), if_neg (by omega), if_neg (by omega), if_neg (by omega), if_neg (by omega), if_neg (by omega), if_neg (by omega), if_neg (by omega), if_neg (by omega), if_neg (by omega), if_neg (by omega)]
  · rw [sI, if_neg (by omega), if_neg (by omega), if_neg (by omega), if_neg (by omega), if_neg (by omega), if_neg (by omega), if_neg (by omega), if_neg (by omega), if_neg (by omega), if_neg (by omega), if_neg (by omega), if_neg (by omega), if_neg (by omega)]
  · rw [sI, if_neg (by omega), if_neg (by omega), if_neg (by omega), if_neg (by omega), if_neg (by omega), if_neg (by omega), if_neg (by omega), if_neg (by omega), if_neg (by omega), if_neg (by omega), if_neg (by omega), if_neg (by omega), if_neg (by omega)]
  · rw [sI, if_neg (by omega), if_neg (by omega), if_neg (by omega), if_neg (by omega), if_neg (by omega), if_neg (by omega), if_neg (by omega), if_neg (by omega), if_neg (by omega), if_neg (by omega), if_neg (by omega), if_neg (by omega), if_neg (by omega)]
  · rw [sJ, if_neg (by omega), if_neg (by omega)]
  · rw [sJ, if_neg (by omega), if_neg (by omega)]
  · rw [sI, if_neg (by omega), if_neg (by omega), if_neg (by omega), if_neg (by omega), if_neg (by omega), if_neg (by omega), if_neg (by omega), if_neg (by omega), if_neg (by omega), if_neg (by omega), if_neg (by omega), if_neg (by omega), if_neg (by omega)]
  · funext j; rw [sJ, if_neg (fun z => b2 z.1), if_neg (fun z => b1 z.1)]
  · unfold GM MG CK
    rw [fk, fI _ _ hcz.symm, fI _ _ hcz.symm, fI _ _ hcz.symm, fI _ _ hcz.symm, fI _ _ hcz.symm, fR _ _ hcz2, fR _ _ hcz2, i0, i1, i2, i8, i9, r4, r5, v3, v4, v5, v6, v7, v8, v9, v16]
    refine ⟨by omega, ⟨kd3, rfl, rfl, x, y, hc, rfl, rfl, rfl, hx8, hy8, hxy, by omega, rfl, ?_⟩, ⟨a, b, ha, hb, hab, rfl, rfl⟩, rfl, rfl, ⟨0, by omega, rfl⟩, Or.inl rfl, fun _ => rfl, by rw [show t_sz h - 2 = p by omega], by rw [show t_sz h - 1 = p + 1 by omega], ⟨a5, h5, h5', rfl⟩, fun k hk2 => ?_⟩
    · rcases h01 with ⟨rfl, rfl⟩ | ⟨rfl, rfl⟩
      · exact Or.inl ⟨rfl, rfl⟩
      · exact Or.inr ⟨rfl, rfl⟩
    · obtain ⟨q1, q2, q3, q4⟩ := hk k hk2
      have hpc : p + k ≠ c := fun e => by rw [e] at q1; omega
      rw [show t_sz h - 2 + k = p + k by omega, (v14 k hk2).1, (v14 k hk2).2, hI _ _ (by omega) (fun z => hpc z.1), hI _ _ (by omega) (fun z => hpc z.1), hI _ _ (by omega) (fun z => hpc z.1)]
      exact ⟨X2.1.kd q1, q2, q3, q4, ⟨a3, h3, rfl⟩, ⟨a4, h4, rfl⟩⟩
  · unfold PM
    rw [fk, fl2, fR _ _ hcz2, fR _ _ hcz2, v8, v11, v12, v13, ebg]
    refine ⟨fun q hq => by rw [List.mem_singleton.mp hq]; exact hok, ⟨t_sz h + 2, r6, WH.bx A2 _ _ wh2, by rw [fI _ _ c2]; exact ps0⟩, ⟨P, rfl, Nat.lt_succ_self _, w18, w19, fun _ => v20, fun e => absurd rfl e⟩, rfl, ⟨0, by omega, rfl⟩, fun _ _ => ⟨0, by omega, rfl⟩, r7, kd9, ln49, fun q hq k hk2 => ?_⟩
    simp at hq
    subst hq
    rw [fI _ _ c1]; exact kept k hk2
end GAME4
/-! PURE 35: game. -/
/-- a new clock -/
def nC (h : TH) (a b d : Int32) : TH := s_I (s_I (s_I (s_N h 1 0) (t_sz h) 0 a) (t_sz h) 1 b) (t_sz h) 2 d
theorem nC_xt {h : TH} {a b d : Int32} (hf : t_kd h (t_sz h) = 0) : Xt h (nC h a b d) := (((Xt.rf.N hf).I hf).I hf).I hf
theorem nC_ld {mo : Nat} {h : TH} {a b d : Int32} (H : LDp mo h) : LDp mo (nC h a b d) := (LDp.N (kd := 1) (n := 0) H : LDp mo (s_N h 1 0))
theorem nC_sz {h : TH} {a b d : Int32} : t_sz (nC h a b d) = t_sz h + 1 := rfl
theorem nC_f {h : TH} {a b d : Int32} : t_kd (nC h a b d) (t_sz h) = 1 ∧ t_I (nC h a b d) (t_sz h) 0 = a ∧ t_I (nC h a b d) (t_sz h) 1 = b ∧ t_I (nC h a b d) (t_sz h) 2 = d := by
  unfold nC
  refine ⟨?_, ?_, ?_, ?_⟩ <;> simp [kd_sI, kd_sJ, kd_sR, kd_sN, ln_sI, ln_sJ, ln_sR, ln_sN, sz_sI, sz_sJ, sz_sR, sz_sN, I_sI, I_sJ, I_sR, I_sN, J_sI, J_sJ, J_sR, J_sN, R_sI, R_sJ, R_sR, R_sN]
theorem nC_init {h : TH} {a b d : Int32} : fX1_init (s_N h 1 0) (t_sz h) a b d = some (nC h a b d) := by
  unfold fX1_init
  rw [if_pos (by rw [kd_sN, if_pos rfl])]; rfl
section GAME5
variable {u mo : Nat} {h : TH} {S : MS} {t c s n G N P : Nat} {gm nd : Nat → Nat} {gl nl : Nat → List BW} {ol : List Nat} {kp : Nat → Bool}
/-- game -/
theorem call_game {K : Nat} (hK : K ≤ 4000) (H0 : RR mo t K h S) (x y a3 a4 a5 : Int32) : Agr mo t K [eI, eA, eS] (fX8_game h t x y a3 a4 a5) (fX9_game S x y a3 a4 a5) := by
  obtain ⟨c, s, n, G, N, P, gm, nd, gl, nl, ol, kp, hP, H⟩ := id H0
  have h8 := H.2.1.1
  have h16 := H.G16
  have e1 : ∀ r8, r8 = some (.inr (eI, h)) → Agr mo t K [eI, eA, eS] r8 (fX9_game_116 S x y a3 a4 a5 1) := fun r8 hr =>
    Agr.err H0 (fun n => Sq.f) (j := 0) (E := eI) (b := 0) (S2 := ms_i S 47 1) rfl (by omega) hr (by unfold fX9_game_116; rw [fails_1]; rfl) i47
  have e2 : ∀ r8, r8 = some (.inr (eA, h)) → Agr mo t K [eI, eA, eS] r8 (fX9_game_116 S x y a3 a4 a5 2) := fun r8 hr =>
    Agr.err H0 (fun n => Sq.f) (j := 1) (E := eA) (b := 0) (S2 := ms_i S 47 2) rfl (by omega) hr (by unfold fX9_game_116; rw [fails_2]; rfl) i47
  have p0 : ∀ s0, fX9_game_65 S x y a3 a4 a5 0 s0 = fX9_game_116 S x y a3 a4 a5 1 := fun s0 => by unfold fX9_game_65; rw [if_pos rfl]
  have p1 : fX9_game_65 S x y a3 a4 a5 1 0 = fX9_game_116 S x y a3 a4 a5 2 := by unfold fX9_game_65; rw [if_neg (by decide), if_pos rfl]
  have p21 : fX9_game_21 S x y a3 a4 a5 0 = fX9_game_116 S x y a3 a4 a5 1 := by
    unfold fX9_game_21
    rw [isIn_X9, isIn_X9, isIn_X9, Option.bind_some, Option.bind_some, Option.bind_some, p0, p0, ite_self, ite_self, ite_self, ite_self]
  have r3 : (decide ((0 : Int32) ≤ a3) && decide (a3 ≤ 3600)) = inR a3 0 3600 := rfl
  have r4 : (decide ((0 : Int32) ≤ a4) && decide (a4 ≤ 5)) = inR a4 0 5 := rfl
  have r5 : (decide ((1 : Int32) ≤ a5) && decide (a5 ≤ 60)) = inR a5 1 60 := rfl
  unfold fX8_game fX9_game
  rw [if_pos H.1.1, isPlayer_X9 H, Option.bind_some, requirePlayer_X8 H, Option.bind_some]
  rcases isN_cases (x := x) (n := n) (by omega) with hx | ⟨a, ha, rfl⟩
  · rw [hx, if_neg ff, if_pos rfl, xcs_2, p21]
    exact e1 _ rfl
  · rw [isN_nI ha (by omega), if_pos rfl, if_neg tf, xcs_1, if_pos H.1.1, isPlayer_X9 H, Option.bind_some, requirePlayer_X8 H, Option.bind_some]
    rcases isN_cases (x := y) (n := n) (by omega) with hy | ⟨b, hb, rfl⟩
    · rw [hy, if_neg ff, if_pos rfl, xcs_2, p21]
      exact e1 _ rfl
    · rw [isN_nI hb (by omega), if_pos rfl, if_neg tf, xcs_1]
      unfold fX9_game_21
      by_cases hab : nI a = nI b
      · rw [if_pos hab, if_pos hab, p1]
        exact e2 _ rfl
      · rw [if_neg hab, if_neg hab, range_X8, Option.bind_some, isIn_X9, Option.bind_some, r3]
        have hab' : a ≠ b := fun e => hab (by rw [e])
        cases q3 : inR a3 0 3600
        · rw [if_neg ff, if_pos rfl, xcs_2, p1]; exact e2 _ rfl
        · rw [if_pos rfl, if_neg tf, xcs_1, range_X8, Option.bind_some, isIn_X9, Option.bind_some, r4]
          cases q4 : inR a4 0 5
          · rw [if_neg ff, if_pos rfl, xcs_2, p1]; exact e2 _ rfl
          · rw [if_pos rfl, if_neg tf, xcs_1, range_X8, Option.bind_some, isIn_X9, Option.bind_some, r5]
            cases q5 : inR a5 1 60
            · rw [if_neg ff, if_pos rfl, xcs_2, p1]; exact e2 _ rfl
            · rw [if_pos rfl, if_neg tf, xcs_1, if_pos H.1.1]
              obtain ⟨v3, -, hv3, rfl⟩ := inR_ex (a := 0) (b := 3600) (by omega) (by omega) q3
              obtain ⟨v4, -, hv4, rfl⟩ := inR_ex (a := 0) (b := 5) (by omega) (by omega) q4
              obtain ⟨v5, hv5, hv5', rfl⟩ := inR_ex (a := 1) (b := 60) (by omega) (by omega) q5
              have hld := H.2.2.2.2.2.2
              have ld1 := nC_ld (a := nI v3) (b := nI v4) (d := nI v5) hld
              have xt1 := nC_xt (a := nI v3) (b := nI v4) (d := nI v5) hld.z
              have xt2 := nC_xt (a := nI v3) (b := nI v4) (d := nI v5) ld1.z
              have ld2 := nC_ld (a := nI v3) (b := nI v4) (d := nI v5) ld1
              have f1 := nC_f (h := h) (a := nI v3) (b := nI v4) (d := nI v5)
              have f2 := nC_f (h := nC h (nI v3) (nI v4) (nI v5)) (a := nI v3) (b := nI v4) (d := nI v5)
              have s1 := nC_sz (h := h) (a := nI v3) (b := nI v4) (d := nI v5)
              have s2 := nC_sz (h := nC h (nI v3) (nI v4) (nI v5)) (a := nI v3) (b := nI v4) (d := nI v5)
              rw [nC_init, Option.bind_some, nC_init, Option.bind_some, H.1.2.1, Option.bind_some]
              rw [s1] at s2 f2
              rw [s1]
              generalize nC (nC h (nI v3) (nI v4) (nI v5)) (nI v3) (nI v4) (nI v5) = hB at xt2 ld2 f2 s2 ⊢
              generalize nC h (nI v3) (nI v4) (nI v5) = hA at xt1 xt2 ld1 f1
              have H2 : Rel 16 mo hB S t c s n G N P gm nd gl nl ol kp := H.xt (xt1.tr xt2) ld2
              have H02 : RR mo t K hB S := ⟨c, s, n, G, N, P, gm, nd, gl, nl, ol, kp, hP, H2⟩
              rw [if_pos H2.cb.1]
              have hk : ∀ k, k < 2 → t_kd hB (t_sz h + k) = 1 ∧ t_I hB (t_sz h + k) 0 = nI v3 ∧ t_I hB (t_sz h + k) 1 = nI v4 ∧ t_I hB (t_sz h + k) 2 = nI v5 := fun k hk2 => by
                have : k = 0 ∨ k = 1 := by omega
                rcases this with rfl | rfl
                · rw [Nat.add_zero, (xt2.2 (t_sz h) (by omega)).1]
                  exact ⟨xt2.1.kd f1.1, f1.2⟩
                · exact f2
              have bad : ∀ r8, r8 = some (.inr (eS, hB)) → Agr mo t K [eI, eA, eS] r8 (fX9_game_116 S (nI a) (nI b) (nI v3) (nI v4) (nI v5) 3) := fun r8 hr =>
                Agr.err H02 (fun n => Sq.f) (j := 2) (E := eS) (b := 0) (S2 := ms_i S 47 3) rfl (by omega) hr (by unfold fX9_game_116; rw [fails_3]; rfl) i47
              unfold fX9_game_65
              rw [if_neg (show ¬ ((1 : Int32) = 0) by decide), if_neg (show ¬ ((1 : Int32) = 0) by decide), plays_X9 H, Option.bind_some]
              have hbusy : ∀ q, fX2_isBusy hB c (nI q) = some (bz S q 0 G) := fun q => isBusy_X2 H2 q
              cases za : bz S a 0 G
              · rw [if_pos rfl, plays_X9 H, Option.bind_some]
                cases zb : bz S b 0 G
                · rw [if_pos rfl, H.2.2.1.2.2.1]
                  by_cases hG : G < 16
                  · obtain ⟨h2, S2, gm2, gl2, k1, k2, k3, k4⟩ := game_ok H2 (by omega) ha hb hab' hG za zb s2 hk (by omega) (by omega) hv5 (by omega)
                    rw [if_neg (show ¬ nI G = 16 from fun z => absurd ((nI_eq (by omega) (by omega)).mp (z.trans (show (16 : Int32) = nI 16 by decide))) (by omega)), k1, Option.bind_some, k2]
                    dsimp only
                    rw [if_pos (show (0 : Int32) ≤ nI G from nI_pos' (by omega))]
                    exact ⟨h2, S2, ⟨c, s, n, G + 1, N, P + 1, gm2, nd, gl2, nl, ol, kp, by omega, k3⟩, Or.inl ⟨nI G, rfl, rfl, k4⟩⟩
                  · have hG16 : G = 16 := by omega
                    have hbeg : fX2_begin hB c (nI a) (nI b) (some (t_sz h)) (some (t_sz h + 1)) = some (-1, hB) := by
                      unfold fX2_begin
                      rw [if_pos H2.cb.1, hbusy, Option.bind_some, za, if_pos rfl, hbusy, Option.bind_some, zb, if_pos rfl, H2.2.2.1.2.1, if_neg (nI_pos (by omega)), H2.cb.2.2.1.1, Option.bind_some, if_pos H2.cb.2.2.1.2.1, H2.cb.2.2.1.2.2, if_neg (nI_nlt (by omega) (by omega))]
                    rw [if_pos (show nI G = 16 by rw [hG16]; decide), hbeg, Option.bind_some]
                    dsimp only
                    rw [if_neg (by decide)]
                    exact bad _ rfl
                · have hbeg : fX2_begin hB c (nI a) (nI b) (some (t_sz h)) (some (t_sz h + 1)) = some (-1, hB) := by
                    unfold fX2_begin
                    rw [if_pos H2.cb.1, hbusy, Option.bind_some, za, if_pos rfl, hbusy, Option.bind_some, zb, if_neg tf]
                  rw [if_neg tf, hbeg, Option.bind_some]
                  dsimp only
                  rw [if_neg (by decide)]
                  exact bad _ rfl
              · have hbeg : fX2_begin hB c (nI a) (nI b) (some (t_sz h)) (some (t_sz h + 1)) = some (-1, hB) := by
                  unfold fX2_begin
                  rw [if_pos H2.cb.1, hbusy, Option.bind_some, za, if_neg tf]
                rw [if_neg tf, hbeg, Option.bind_some]
                dsimp only
                rw [if_neg (by decide)]
                exact bad _ rfl
end GAME5
