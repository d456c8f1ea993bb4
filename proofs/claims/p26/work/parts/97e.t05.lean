/-! P26 5: the law looks at all games, at a board. -/
/-- a game in numbers, as both hold it -/
def GN (S L : MS) (n E g : Nat) : Prop := ∃ a b x y hc et v st m ps M0 M1 p0 p1 len : Nat,
  (a < n ∧ b < n ∧ a ≠ b ∧ x < n ∧ y < n ∧ x ≠ y ∧ hc ≤ 4 ∧ et ≤ E ∧ v ≤ 1 ∧ st < 3 ∧ (st = 0 → v = 0) ∧ m ≤ 4000 ∧ ps < 3 ∧ (st = 0 → ps < 2) ∧ M0 ≤ 3600 ∧ M1 ≤ 3600 ∧ p0 < 6 ∧ p1 < 6 ∧ 1 ≤ len ∧ len < 61) ∧
  (m_I S 3 g = nI a ∧ m_I S 4 g = nI b ∧ m_I S 5 g = nI x ∧ m_I S 6 g = nI y ∧ m_I S 7 g = nI hc ∧ m_I S 10 g = nI et ∧ m_I S 9 g = nI v ∧ m_I S 8 g = nI st ∧ m_I S 12 g = nI m ∧ m_I S 13 g = nI ps ∧ m_I S 14 (2 * g) = nI M0 ∧ m_I S 14 (2 * g + 1) = nI M1 ∧ m_I S 15 (2 * g) = nI p0 ∧ m_I S 15 (2 * g + 1) = nI p1 ∧ m_I S 16 g = nI len) ∧
  (m_I L 4 g = nI (10 * a + b) ∧ m_I L 4 (16 + g) = nI (100 * x + 10 * y + hc) ∧ m_I L 4 (32 + g) = nI st ∧ m_I L 4 (48 + g) = nI (2 * et + v) ∧ m_I L 5 g = nI M0 ∧ m_I L 5 (16 + g) = nI M1 ∧ m_I L 5 (32 + g) = nI (10 * p0 + p1) ∧ m_I L 5 (48 + g) = nI len ∧ m_I L 6 g = nI m ∧ m_I L 6 (16 + g) = nI ps)
theorem IV.le {v : Int32} {k : Nat} (h : IV v k) : ∃ j, j < k ∧ v = nI j := h
section LOOK
variable {lo : Nat} {h : TH} {S L : MS} {t c s n G N P Q J : Nat} {gm nd : Nat → Nat} {gl nl : Nat → List BW} {ol : List Nat} {kp : Nat → Bool}
theorem gnum (H : Rel 16 lo h S t c s n G N P gm nd gl nl ol kp) (T : LT S L J n G ol.length Q N P) {g : Nat} (hg : g < G) : GN S L n ol.length g := by
  have h16 := H.G16
  have hn8 := H.2.1.1
  have hGM := H.gM hg
  obtain ⟨a, b, ha, hb, hab, s3, s4⟩ := hGM.2.2.1
  obtain ⟨x, y, hx, hy, hxn, hyn⟩ := hGM.on hn8
  obtain ⟨-, -, -, x', y', hc, hx', hy', s7, hx8, hy8, hxy, hc4, -⟩ := hGM.2.1
  obtain ⟨st, hst, s8⟩ := hGM.2.2.2.2.2.1
  have s9 := hGM.2.2.2.2.2.2.1
  have s89 := hGM.2.2.2.2.2.2.2.1
  have hCK := hGM.2.2.2.2.2.2.2.2
  obtain ⟨len, hl1, hl2, s16⟩ := hCK.2.2.1
  obtain ⟨-, -, -, -, ⟨M0, hM0, s14a⟩, ⟨p0, hp0, s15a⟩⟩ := hCK.2.2.2 0 (by omega)
  obtain ⟨-, -, -, -, ⟨M1, hM1, s14b⟩, ⟨p1, hp1, s15b⟩⟩ := hCK.2.2.2 1 (by omega)
  have hpm := H.pm hg
  obtain ⟨ps, hps, s13⟩ := hpm.2.2.2.2.1
  have s12 := hpm.2.2.2.1
  have hlen := H.2.2.2.2.2.1.2.1 g hg
  obtain ⟨et, het, s10, -⟩ := H.2.2.2.1.2.2.2.2.2.2.2.2.2.1 g hg
  have hP := T.2.1.2.2.2.2.2
  have hE := T.2.1.2.2.1
  obtain ⟨l1, l2, l3, l4, l5, l6, l7, l8, l9, l10⟩ := (T.2.2.2.2.1 g hg).1
  have ex : x' = x := (nI_eq (by omega) (by omega)).mp (hx'.symm.trans hx)
  have ey : y' = y := (nI_eq (by omega) (by omega)).mp (hy'.symm.trans hy)
  subst ex ey
  have hv : ∃ v, v ≤ 1 ∧ m_I S 9 g = nI v := by
    rcases s9 with e | e
    · exact ⟨0, by omega, e⟩
    · exact ⟨1, by omega, e⟩
  obtain ⟨v, hv1, s9'⟩ := hv
  have hsv : st = 0 → v = 0 := fun e => by
    have := s89 (by rw [s8, e]; rfl)
    rw [s9'] at this
    rcases Nat.eq_zero_or_pos v with q | q
    · exact q
    · exact absurd this (nI_ne0 q (by omega))
  have hsp : st = 0 → ps < 2 := fun e => by
    obtain ⟨j, hj, ej⟩ := hpm.2.2.2.2.2.1 (by rw [s8, e]; rfl) (by omega)
    have : ps = j := (nI_eq (by omega) (by omega)).mp (s13.symm.trans ej)
    omega
  rw [show 2 * g + 0 = 2 * g from rfl] at s14a s15a
  refine ⟨a, b, x', y', hc, et, v, st, (gl g).length - 1, ps, M0, M1, p0, p1, len, ⟨ha, hb, hab, hxn, hyn, hxy, hc4, het, hv1, hst, hsv, by omega, hps, hsp, by omega, by omega, hp0, hp1, hl1, hl2⟩, ⟨s3, s4, hx', hy', s7, s10, s9', s8, s12, s13, s14a, s14b, s15a, s15b, s16⟩, ?_, ?_, ?_, ?_, ?_, ?_, ?_, ?_, ?_, ?_⟩
  · rw [l1, s3, s4, i32_10, pk_mul, nI_add]
  · rw [l2]; unfold hv; rw [hx', hy', s7, i32_100, i32_10, pk_mul, pk_mul, nI_add, nI_add]
  · rw [l3, s8]
  · rw [l4, s10, s9', i32_2, pk_mul, nI_add]
  · rw [l5, s14a]
  · rw [l6, s14b]
  · rw [l7, s15a, s15b, i32_10, pk_mul, nI_add]
  · rw [l8, s16]
  · rw [l9, s12]
  · rw [l10, s13]
theorem LT.lk (H : Rel 16 lo h S t c s n G N P gm nd gl nl ol kp) (T : LT S L J n G ol.length Q N P) : LK S L n ol := by
  have h16 := H.G16
  obtain ⟨-, ⟨t1, t2, t3, -⟩, ⟨t4, -⟩, tp, -, -, to, -⟩ := id T
  refine ⟨t1, t3, t4, fun a ha => ⟨(tp a ha).1, (H.2.1.2.2.2 a ha).2⟩, fun j g hj => ?_, fun g hg => ?_⟩
  · have hjl : j < ol.length := by
      rcases Nat.lt_or_ge j ol.length with q | q
      · exact q
      · rw [List.getElem?_eq_none q] at hj; cases hj
    rw [to j hjl]
    exact H.2.2.2.1.1 j g hj
  · have hgG := (H.2.2.2.1.2.2.2.2.1 g hg).1
    have h8 := (H.2.2.2.1.2.2.2.2.1 g hg).2
    obtain ⟨a, b, x, y, hc, et, v, st, m, ps, M0, M1, p0, p1, len, ⟨ha, hb, hab, hx, hy, hxy, hc4, het, hv, hst, hsv, hm, hps, -⟩, ⟨s3, s4, s5, s6, s7, s10, s9, s8, s12, s13, s14a, s14b, s15a, s15b, s16⟩, l1, l2, l3, l4, -⟩ := gnum H T hgG
    exact ⟨by omega, x, y, hc, v, et, st, hx, hy, hxy, hc4, hv, by omega, hst, fun _ e => h8 (by rw [s8, e]; rfl), s5, s6, s9, s8, l2, l3, l4⟩
theorem LT.lr (H : Rel 16 lo h S t c s n G N P gm nd gl nl ol kp) (T : LT S L J n G ol.length Q N P) : LRk S L n ol := fun a ha => by
  have e := H.rky.p H.2.1.1 ha
  have tp := T.2.2.2.1 a ha
  unfold prs
  rw [tp.2.1, tp.2.2]
  exact e
theorem LT.gb (H : Rel 16 lo h S t c s n G N P gm nd gl nl ol kp) (T : LT S L J n G ol.length Q N P) {g : Nat} (hg : g < G) : GB S L n g ol.length := by
  have h16 := H.G16
  obtain ⟨a, b, x, y, hc, et, v, st, m, ps, M0, M1, p0, p1, len, ⟨ha, hb, hab, hx, hy, hxy, hc4, het, hv, hst, hsv, hm, hps, -⟩, ⟨s3, s4, s5, s6, s7, s10, s9, s8, s12, s13, s14a, s14b, s15a, s15b, s16⟩, l1, l2, l3, l4, -⟩ := gnum H T hg
  exact ⟨by omega, a, b, et, v, ha, hb, het, hv, s3, s4, s10, s9, l1, l4, (T.2.2.2.2.1 g hg).1.2.1⟩
/-- the board of a game: what the law finds as the latest -/
theorem LT.bd (H : Rel 16 lo h S t c s n G N P gm nd gl nl ol kp) (T : LT S L J n G ol.length Q N P) {g : Nat} (hg : g < G) : ∃ l, gl g = (m_J L 0 (lat L g Q), m_J L 1 (lat L g Q)) :: l ∧ OKB (m_J L 0 (lat L g Q), m_J L 1 (lat L g Q)) ∧ (∀ x, x ∈ gl g ↔ ∃ j, j < Q ∧ m_I L 2 j = nI g ∧ (m_J L 0 j, m_J L 1 j) = x) ∧ lat L g Q < Q := by
  obtain ⟨l, A, e11, hW, hex, hmem, hhd⟩ := (T.2.2.2.2.1 g hg).2
  obtain ⟨q, A2, x, l2, e0, a1, a2, a3, a4, a5, a6⟩ := H.pos hg
  have hP := T.2.1.2.2.2.2.2
  have eA : A = A2 := (nI_eq (by cases l with | nil => exact hW.elim | cons z t => have := hW.1; omega) (by have := a4.1; omega)).mp (e11.symm.trans a3)
  subst eA
  have el := WM.uniq (by omega) _ _ _ hW a4
  subst el
  rw [List.head?_cons, Option.some.injEq] at hhd
  rw [e0]
  subst hhd
  exact ⟨l2, rfl, a5, hmem, (lat_ok Q hex).1⟩
theorem sZZ {h : TH} {a b : Nat} : s_Z (s_Z h a) b = s_Z h b := rfl
section AG
variable {Ls : Nat} {xs : Nat → Int32} {K : Int32 → TH → MS → Prop}
theorem bi_1 : (1 : Int32) = bi true := rfl
theorem games_162 (H : Rel 16 lo h S t c s n G N P gm nd gl nl ol kp) (T : LT S L J n G ol.length Q N P) (hJ : J ≤ 64) (k : ∀ z, t_sz h ≤ z → K 1 (s_Z h z) L) : ∀ (d fu i z : Nat), i + d = G → d < fu → t_sz h ≤ z → gL_areGames_162 lo t Ls xs K fu (s_Z h z) L 1 (nI i) := by
  have h16 := H.G16
  have hT7 := T.2.2.1
  have hQ := T.2.1.2.2.2.2.1
  intro d
  induction d with
  | zero =>
    intro fu i z hi hf hz
    obtain ⟨f, rfl⟩ : ∃ f, fu = f + 1 := ⟨fu - 1, by omega⟩
    rw [gL_areGames_162, show (1 : Int32).toNatClampNeg = 1 by decide, hT7.2.1, if_pos (nI_le (by omega) (by omega))]
    exact ⟨true, bi_1, k z hz⟩
  | succ d ih =>
    intro fu i z hi hf hz
    obtain ⟨f, rfl⟩ : ∃ f, fu = f + 1 := ⟨fu - 1, by omega⟩
    have hg : i < G := by omega
    have Hz := H.Z hz
    obtain ⟨a, b, x, y, hc, et, v, st, m, ps, M0, M1, p0, p1, len, ⟨ha, hb, hab, hx, hy, hxy, hc4, het, hv, hst, hsv, hm, hps, -, hM0, hM1, hp0, hp1, hl1, hl2⟩, ⟨s3, s4, s5, s6, s7, s10, s9, s8, s12, s13, s14a, s14b, s15a, s15b, s16⟩, l1, l2, l3, l4, l5, l6, l7, l8, l9, l10⟩ := gnum H T hg
    have hn8 := H.2.1.1
    have hE := T.2.1.2.2.1
    obtain ⟨l, e0, hok, -, hlat⟩ := T.bd H hg
    have hd := due_L (T.lk H) (T.lr H) hT7.2.2.2.1 (T.gb H hg)
    rw [gL_areGames_162, show (1 : Int32).toNatClampNeg = 1 by decide, hT7.2.1, if_neg (nI_ge (by omega) (by omega)), if_neg (by decide)]
    refine ⟨_, latest_L (by omega) hT7.2.2.1, H.1.1, _, _, rd_state Hz hg, Hz.ld, ?_⟩
    rw [i32_32, i32_48, nI_add, nI_add, clp (by omega), clp (by omega), l3, l4, s8, s9, i32_2, pk_rem (by omega) (by omega) (by omega), show (2 * et + v) % 2 = v by omega]
    refine ⟨xin_nI (by omega) (by omega), xin_nI (by omega) (by omega), ?_⟩
    rw [if_pos (by
      rw [i32_10, pk_mul]
      have : v = 0 ∨ v = 1 := by omega
      rcases this with rfl | rfl
      · rw [if_pos (show nI 0 = 0 from rfl)]; rfl
      · rw [if_neg (show ¬ nI 1 = 0 by decide)])]
    refine ⟨H.1.1, _, _, rd_handicap Hz hg, Hz.ld, ?_⟩
    rw [i32_16, nI_add, clp (show 16 + i < 2 ^ 31 by omega)]
    refine ⟨xin_nI (by omega) (by omega), ?_⟩
    rw [if_pos ((T.2.2.2.2.1 i hg).1.2.1).symm]
    refine ⟨H.1.1, _, _, rd_due Hz hg, Hz.ld, _, hd, ?_⟩
    dsimp only
    rw [if_pos rfl]
    refine ⟨H.1.1, _, _, (show (0 : Int32) = nI 0 from rfl) ▸ rd_clock Hz hg (k := 0) (by omega), Hz.ld, xin_nI (by omega) (by omega), ?_⟩
    rw [clp (show i < 2 ^ 31 by omega), l5, l7, Nat.add_zero, s14a, s15a, i32_10, pk_div (by omega) (by omega) (by omega), show (10 * p0 + p1) / 10 = p0 by omega, if_pos rfl]
    refine ⟨H.1.1, _, _, (show (1 : Int32) = nI 1 from rfl) ▸ rd_clock Hz hg (k := 1) (by omega), Hz.ld, ?_⟩
    rw [l6, s14b, s15b, show nI (10 * p0 + p1) - nI p0 * nI 10 = nI p1 by rw [pk_mul, pk_sub (by omega)]; congr 1; omega, if_pos (by rw [i32_10])]
    refine ⟨H.1.1, _, _, rd_score Hz hg e0, Hz.ld, xin_nI (by omega) (by omega), ?_⟩
    rw [clp (show lat L i Q < 2 ^ 31 by omega), l2, pk_rem (by omega) (by omega) (by omega), show (100 * x + 10 * y + hc) % 10 = hc by omega, s7]
    refine ⟨_, score_L hok (by omega), ?_⟩
    have e6 : (if nI hc = 0 then (6 : Int) else 0) = if hc = 0 then 6 else 0 := by
      by_cases q : hc = 0
      · subst q; rw [if_pos rfl, if_pos nI_0]
      · rw [if_neg (nI_ne0 (by omega) (by omega)), if_neg q]
    rw [e6, if_pos rfl]
    refine asks_4 (AX.err Hz (rx_clock Hz hg) fun z2 hz2 => ?_)
    rw [if_pos rfl]
    have Hz2 := H.Z (Nat.le_trans hz hz2)
    refine asks_3 (AX.err Hz2 (rx_sign Hz2 hg) fun z3 hz3 => ?_)
    rw [if_pos rfl]
    unfold gL_areGames_384
    rw [nI_1]
    exact ih f (i + 1) z3 (by omega) (by omega) (Nat.le_trans hz (Nat.le_trans hz2 hz3))
theorem games_85 (H : Rel 16 lo h S t c s n G N P gm nd gl nl ol kp) (T : LT S L J n G ol.length Q N P) (hJ : J ≤ 64) (k : ∀ z, t_sz h ≤ z → K 1 (s_Z h z) L) : ∀ (d fu i z : Nat), i + d = n → d < fu → t_sz h ≤ z → gL_areGames_85 lo t Ls xs K fu (s_Z h z) L 1 (nI i) := by
  have hn8 := H.2.1.1
  have h16 := H.G16
  have hT7 := T.2.2.1
  intro d
  induction d with
  | zero =>
    intro fu i z hi hf hz
    obtain ⟨f, rfl⟩ : ∃ f, fu = f + 1 := ⟨fu - 1, by omega⟩
    rw [gL_areGames_85, show (0 : Int32).toNatClampNeg = 0 by decide, hT7.1, if_pos (nI_le (by omega) (by omega))]
    exact games_162 H T hJ k G 18 0 z (by omega) (by omega) hz
  | succ d ih =>
    intro fu i z hi hf hz
    obtain ⟨f, rfl⟩ : ∃ f, fu = f + 1 := ⟨fu - 1, by omega⟩
    have Hz := H.Z hz
    have hp := T.lr H i (by omega)
    unfold prs at hp
    have e1 : m_I L 3 (3 * i + 1) = (stdF S i ol).1 := congrArg Prod.fst hp
    have e2 : m_I L 3 (3 * i + 2) = (stdF S i ol).2 := congrArg Prod.snd hp
    have go : ∀ w : Int32, w = (10 : Int32) * (stdF S i ol).1 → ∀ u : Int32, u = (if 0 ≤ (stdF S i ol).2 then (stdF S i ol).2 else 5 - (stdF S i ol).2) → gL_areGames_142 lo t Ls xs K (gL_areGames_85 lo t Ls xs K f) (s_Z h z) L (nI i) (told2 (stdF S i ol)) w u := fun w hw u hu => by
      unfold gL_areGames_142 gL_areGames_151
      rw [if_pos (by rw [hw, hu]; rfl), nI_1]
      exact ih f (i + 1) z (by omega) (by omega) hz
    rw [gL_areGames_85, show (0 : Int32).toNatClampNeg = 0 by decide, hT7.1, if_neg (nI_ge (by omega) (by omega)), if_neg (by decide), at3_2, at3_1]
    refine ⟨xin_nI (by omega) (by omega), H.1.1, _, _, rd_rank Hz (by omega), Hz.ld, xin_nI (by omega) (by omega), ?_⟩
    rw [clp (by omega), clp (by omega), e1, e2]
    by_cases h0 : 0 ≤ (stdF S i ol).2
    · rw [if_pos h0]; exact go _ rfl _ (by rw [if_pos h0])
    · rw [if_neg h0]; exact go _ rfl _ (by rw [if_neg h0])
theorem areGames_ok (H : Rel 16 lo h S t c s n G N P gm nd gl nl ol kp) (T : LT S L J n G ol.length Q N P) (hJ : J ≤ 64) (k : ∀ z, t_sz h ≤ z → K 1 (s_Z h z) L) : gL_areGames lo t Ls xs K h L := by
  have hn8 := H.2.1.1
  have h16 := H.G16
  have hT7 := T.2.2.1
  unfold gL_areGames
  rw [show (0 : Int32).toNatClampNeg = 0 by decide, hT7.1]
  refine asks_0 (AX.err H (rx_rank H (isN_end (by omega))) fun z1 hz1 => ?_)
  have H1 := H.Z hz1
  rw [if_pos rfl, show (1 : Int32).toNatClampNeg = 1 by decide, hT7.2.1]
  refine asks_1 (AX.err H1 (rx_state H1 (isN_end (by omega))) fun z2 hz2 => ?_)
  have hz2' := Nat.le_trans hz1 hz2
  have H2 := H.Z hz2'
  rw [if_pos rfl, sZZ]
  refine asks_2 (AX.err H2 (rx_handicap H2 isN_m1) fun z3 hz3 => ?_)
  have hz3' := Nat.le_trans hz2' hz3
  have H3 := H.Z hz3'
  rw [if_pos rfl, sZZ, hT7.2.1]
  refine asks_5 (AX.err H3 (rx_score H3 (isN_end (by omega))) fun z4 hz4 => ?_)
  have hz4' := Nat.le_trans hz3' hz4
  have H4 := H.Z hz4'
  rw [if_pos rfl, sZZ]
  refine asks_8 (AX.err H4 (rx_due H4 isN_m1) fun z5 hz5 => ?_)
  rw [if_pos rfl, sZZ]
  unfold gL_areGames_80
  exact games_85 H T hJ k n 10 0 z5 (by omega) (by omega) (Nat.le_trans hz4' hz5)
/-! a board -/
theorem lbc_eq {x : BW} (p : Nat) : cnt (ar (fl (pt p) (stn x p)) &&& ((x.1 ||| x.2) ^^^ (-1))) = lbc x p := rfl
theorem board_51 (H : Rel 16 lo h S t c s n G N P gm nd gl nl ol kp) (T : LT S L J n G ol.length Q N P) (hJ : J ≤ 64) {g : Nat} (hg : g < G) {a6 : Int32} (k : ∀ z, t_sz h ≤ z → K 1 (s_Z h z) L) : ∀ (d fu i z : Nat), i + d = 49 → d < fu → t_sz h ≤ z → gL_isBoard_51 lo t Ls xs K fu (s_Z h z) L (nI g) (nI (lat L g Q)) 1 (nI i) := by
  have h16 := H.G16
  have hQ := T.2.1.2.2.2.2.1
  obtain ⟨l, e0, hok, -, hlat⟩ := T.bd H hg
  intro d
  induction d with
  | zero =>
    intro fu i z hi hf hz
    obtain ⟨f, rfl⟩ : ∃ f, fu = f + 1 := ⟨fu - 1, by omega⟩
    rw [gL_isBoard_51, if_pos (le_n 49 49 (by decide) (by omega) (by omega))]
    exact ⟨true, bi_1, k z hz⟩
  | succ d ih =>
    intro fu i z hi hf hz
    obtain ⟨f, rfl⟩ : ∃ f, fu = f + 1 := ⟨fu - 1, by omega⟩
    have hi9 : i < 49 := by omega
    have Hz := H.Z hz
    have xl : xin (nI (lat L g Q)) 64 = true := xin_nI (by omega) (by omega)
    have cl : (nI (lat L g Q)).toNatClampNeg = lat L g Q := clp (by omega)
    -- behind the sign and the count
    have go : ∀ (s0 s1 : Int32), s0 = s1 → ∀ f0 : Int32, f0 = nI (lbc (m_J L 0 (lat L g Q), m_J L 1 (lat L g Q)) i) → gL_isBoard_192 lo t Ls xs K (gL_isBoard_51 lo t Ls xs K f) (s_Z h z) L (nI g) (nI (lat L g Q)) (nI i) f0 s0 s1 := fun s0 s1 hs f0 hf0 => by
      unfold gL_isBoard_192 gL_isBoard_226
      rw [if_pos hs]
      refine ⟨H.1.1, _, _, rd_liberties Hz hg hi9 e0, Hz.ld, ?_⟩
      rw [if_pos hf0.symm]
      refine ⟨H.1.1, _, _, rd_flooded Hz hg hi9 e0, Hz.ld, ?_⟩
      rw [if_pos hf0.symm, nI_1]
      exact ih f (i + 1) z (by omega) (by omega) hz
    have sgn : ∀ (a9 a10 s0 : Int32), s0 = nI (lbc (m_J L 0 (lat L g Q), m_J L 1 (lat L g Q)) i) → (a9 = if bt (m_J L 0 (lat L g Q)) i = true then 1 else 0) → (a10 = if bt (m_J L 1 (lat L g Q)) i = true then 1 else 0) → gL_isBoard_160 lo t Ls xs K (gL_isBoard_51 lo t Ls xs K f) (s_Z h z) L (nI g) (nI (lat L g Q)) (nI i) a9 a10 s0 := fun a9 a10 s0 h0 h9 h10 => by
      unfold gL_isBoard_160
      refine ⟨H.1.1, _, _, rd_sign Hz hg hi9 e0, Hz.ld, ?_⟩
      by_cases q1 : bt (m_J L 0 (lat L g Q)) i = true
      · rw [if_pos q1] at h9
        rw [if_neg (by rw [h9]; decide)]
        exact go _ _ (by rw [if_pos q1]) _ h0
      · rw [if_neg q1] at h9
        rw [if_pos h9]
        by_cases q2 : bt (m_J L 1 (lat L g Q)) i = true
        · rw [if_pos q2] at h10
          rw [if_neg (by rw [h10]; decide)]
          exact go _ _ (by rw [if_neg q1, if_pos q2]) _ h0
        · rw [if_neg q2] at h10
          rw [if_pos h10]
          exact go _ _ (by rw [if_neg q1, if_neg q2]) _ h0
    have chn : ∀ (a9 a10 : Int32) (w : Int64), w = stn (m_J L 0 (lat L g Q), m_J L 1 (lat L g Q)) i → inA w → (a9 = if bt (m_J L 0 (lat L g Q)) i = true then 1 else 0) → (a10 = if bt (m_J L 1 (lat L g Q)) i = true then 1 else 0) → gL_isBoard_135 lo t Ls xs K (gL_isBoard_51 lo t Ls xs K f) (s_Z h z) L (nI g) (nI (lat L g Q)) (nI i) a9 a10 w := fun a9 a10 w hw hA h9 h10 => by
      unfold gL_isBoard_135
      refine ⟨_, chain_L hA, _, around_L _, xl, ?_⟩
      rw [cl]
      refine ⟨_, bits_L (inA_and_l (inA_ar _)), ?_⟩
      refine sgn a9 a10 _ ?_ h9 h10
      rw [hw]
      rfl
    rw [gL_isBoard_51, if_neg (ge_n 49 49 (by decide) (by omega) (by omega)), if_neg (by decide), cl]
    refine ⟨xl, ?_⟩
    have b82 : ∀ a9 : Int32, (a9 = if bt (m_J L 0 (lat L g Q)) i = true then 1 else 0) → gL_isBoard_82 lo t Ls xs K (gL_isBoard_51 lo t Ls xs K f) (s_Z h z) L (nI g) (nI (lat L g Q)) (nI i) a9 := fun a9 h9 => by
      have b103 : ∀ a10 : Int32, (a10 = if bt (m_J L 1 (lat L g Q)) i = true then 1 else 0) → gL_isBoard_103 lo t Ls xs K (gL_isBoard_51 lo t Ls xs K f) (s_Z h z) L (nI g) (nI (lat L g Q)) (nI i) a9 a10 := fun a10 h10 => by
        unfold gL_isBoard_103 gL_isBoard_119
        by_cases q1 : bt (m_J L 0 (lat L g Q)) i = true
        · have e9 : ¬ a9 = 0 := by rw [h9, if_pos q1]; decide
          rw [if_neg e9, if_neg e9, cl]
          refine ⟨xl, chn a9 a10 _ ?_ hok.1 h9 h10⟩
          unfold stn; rw [if_pos q1]
        · have e9 : a9 = 0 := by rw [h9, if_neg q1]
          rw [if_pos e9]
          by_cases q2 : bt (m_J L 1 (lat L g Q)) i = true
          · have e10 : ¬ a10 = 0 := by rw [h10, if_pos q2]; decide
            rw [if_neg e10, if_pos e9, cl]
            refine ⟨xl, chn a9 a10 _ ?_ hok.2.1 h9 h10⟩
            unfold stn; rw [if_neg q1]
          · have e10 : a10 = 0 := by rw [h10, if_neg q2]
            rw [if_pos e10]
            refine sgn a9 a10 0 ?_ h9 h10
            rw [lbc_none hok hi9 (by simpa using q1) (by simpa using q2)]; rfl
      unfold gL_isBoard_82
      rw [cl]
      refine ⟨xl, ?_⟩
      by_cases q2 : bt (m_J L 1 (lat L g Q)) i = true
      · rw [if_pos ((shr_b _ (by omega)).mpr q2)]; exact b103 1 (by rw [if_pos q2])
      · rw [if_neg (fun e => q2 ((shr_b _ (by omega)).mp e))]; exact b103 0 (by rw [if_neg q2])
    by_cases q1 : bt (m_J L 0 (lat L g Q)) i = true
    · rw [if_pos ((shr_b _ (by omega)).mpr q1)]; exact b82 1 (by rw [if_pos q1])
    · rw [if_neg (fun e => q1 ((shr_b _ (by omega)).mp e))]; exact b82 0 (by rw [if_neg q1])
theorem isBoard_ok (H : Rel 16 lo h S t c s n G N P gm nd gl nl ol kp) (T : LT S L J n G ol.length Q N P) (hJ : J ≤ 64) {g : Nat} (hg : g < G) (k : ∀ z, t_sz h ≤ z → K 1 (s_Z h z) L) : gL_isBoard lo t Ls xs K h L (nI g) := by
  have hT7 := T.2.2.1
  have hQ := T.2.1.2.2.2.2.1
  unfold gL_isBoard
  refine ⟨_, latest_L (by omega) hT7.2.2.1, ?_⟩
  refine asks_6 (AX.err H (rx_liberties H hg) fun z1 hz1 => ?_)
  have H1 := H.Z hz1
  rw [if_pos rfl]
  refine asks_7 (AX.err H1 (rx_flooded H1 hg) fun z2 hz2 => ?_)
  rw [if_pos rfl]
  exact board_51 H T hJ hg (a6 := 0) k 49 51 0 z2 (by omega) (by omega) (Nat.le_trans hz1 hz2)
end AG
end LOOK
