/-! P26 19: a step of the law. -/
theorem mask_nI (s : Int32) : ∃ v, v < 2 ^ 31 ∧ (s &&& 2147483647) = nI v := by
  refine ⟨(s &&& 2147483647).toBitVec.toNat, ?_, ?_⟩
  · have : (s &&& 2147483647).toBitVec.toNat = s.toBitVec.toNat &&& 2147483647 := by
      rw [Int32.toBitVec_and, BitVec.toNat_and]; rfl
    rw [this]
    exact Nat.lt_of_le_of_lt Nat.and_le_right (by decide)
  · apply Int32.toBitVec_inj.mp
    show (s &&& 2147483647).toBitVec = BitVec.ofNat 32 (s &&& 2147483647).toBitVec.toNat
    rw [BitVec.ofNat_toNat, BitVec.setWidth_eq]
section DONE
variable {lo : Nat} {h : TH} {S L : MS} {t c s n G N P Q J : Nat} {gm nd : Nat → Nat} {gl nl : Nat → List BW} {ol : List Nat} {kp : Nat → Bool}
variable {Ls : Nat} {xs : Nat → Int32} {K : Int32 → TH → MS → Prop}
theorem part_ok (hLs : Ls < 2 ^ 31) {a d : Nat} (ha : a < 2 ^ 31) (h0 : 0 < d) (hd : d < 2 ^ 31) (k : ∀ j, j < d → K (nI j) h L) : gL_part lo t Ls xs K h L (nI a) (nI d) := by
  have w : ∀ v : Int32, gL_part_25 lo t Ls xs K h L (nI d) v := fun v => by
    unfold gL_part_25
    obtain ⟨x, hx, ex⟩ := mask_nI v
    rw [ex, pk_rem hx h0 hd]
    exact ⟨nI_ne0 h0 hd, k _ (Nat.mod_lt _ h0)⟩
  unfold gL_part
  by_cases q : Ls ≤ a
  · rw [if_pos (show (Int32.ofNat Ls) ≤ nI a from nI_le q ha)]; exact w _
  · rw [if_neg (show ¬ (Int32.ofNat Ls) ≤ nI a from nI_ge (by omega) hLs)]
    exact ⟨xin_nI (by omega) hLs, w _⟩
theorem done_90 (hJ : J ≤ 60) (hP : P ≤ J) (H : Rel 16 lo h S t c s n G N P gm nd gl nl ol kp) (T : LT S L J n G ol.length Q N P) {w one two three g : Nat} (hw : w < 50) (h1 : one < 6000) (h2 : two < 7000) (h3 : three < 8000) (hg : g ≤ G) (k : ∀ h2 S2 L2, Tie lo t (J + 1) h2 S2 L2 → K 1 h2 L2) : gL_isDone_90 lo t Ls xs K h L (nI w) (nI one) (nI two) (nI three) (nI g) := by
  have h16 := H.G16
  have hn8 := H.2.1.1
  have hT7 := T.2.2.1
  have e1 : (1 : Int32).toNatClampNeg = 1 := by decide
  have e0 : (0 : Int32).toNatClampNeg = 0 := by decide
  have k' : ∀ h2 S2 L2, Tie lo t (J + 1) h2 S2 L2 → (fun v2 h3 L4 => (∃ b6, v2 = bi b6 ∧ K v2 h3 L4)) (1 : Int32) h2 L2 := fun h2 S2 L2 R => ⟨true, bi_1, k h2 S2 L2 R⟩
  have rem : ∀ a d : Nat, a < 10000 → 0 < d → d < 10000 → nI a - nI a / nI d * nI d = nI (a % d) := fun a d ha hd hd2 => pk_rem (by omega) hd (by omega)
  have quo : ∀ a d : Nat, a < 10000 → 0 < d → d < 10000 → nI a / nI d = nI (a / d) := fun a d ha hd hd2 => pk_div (by omega) hd (by omega)
  unfold gL_isDone_90
  by_cases c4 : 4 ≤ w
  · rw [if_pos (le_n 4 4 (by decide) c4 (by omega))]
    by_cases c10 : 10 ≤ w
    · rw [if_pos (le_n 10 10 (by decide) c10 (by omega))]
      by_cases c28 : 28 ≤ w
      · rw [if_pos (le_n 28 28 (by decide) c28 (by omega))]
        by_cases c32 : 32 ≤ w
        · rw [if_pos (le_n 32 32 (by decide) c32 (by omega))]
          by_cases c39 : 39 ≤ w
          · rw [if_pos (le_n 39 39 (by decide) c39 (by omega))]
            by_cases c42 : 42 ≤ w
            · rw [if_pos (le_n 42 42 (by decide) c42 (by omega))]
              by_cases q42 : w = 42
              · rw [if_pos (by rw [q42]; rfl)]
                exact isSettled_ok hJ hP H T k'
              · rw [if_neg (fun e => q42 ((n_eq 42 42 (by decide) (by omega) (by omega)).mp e))]
                unfold gL_isDone_715
                by_cases c45 : 45 ≤ w
                · rw [if_pos (le_n 45 45 (by decide) c45 (by omega))]
                  by_cases c48 : 48 ≤ w
                  · rw [if_pos (le_n 48 48 (by decide) c48 (by omega))]
                    exact isNode_ok (w := 2) hJ hP H T (by omega) (by omega) (by omega) (by omega) k'
                  · rw [if_neg (ge_n 48 48 (by decide) (by omega) (by omega))]
                    exact isNode_ok (w := 1) hJ hP H T (by omega) (by omega) (by omega) (by omega) k'
                · rw [if_neg (ge_n 45 45 (by decide) (by omega) (by omega))]
                  exact isNode_ok (w := 0) hJ hP H T (by omega) (by omega) (by omega) (by omega) k'
            · rw [if_neg (ge_n 42 42 (by decide) (by omega) (by omega)), e1, hT7.2.1]
              have hj := judge_ok (K := K) (Ls := Ls) (xs := xs) hJ hP H T hg k
              by_cases qg : g < G
              · obtain ⟨a, b, x, y, hc, et, v, st, m, ps, M0, M1, p0, p1, len, ⟨ha, hb, hab, hx, hy, hxy, hc4, het, hv, hst, hsv, hm, hps, -⟩, ⟨s3, s4, s5, s6, s7, s10, s9, s8, s12, s13, s14a, s14b, s15a, s15b, s16⟩, l1, l2, l3, l4, l5, l6, l7, l8, l9, l10⟩ := gnum H T qg
                have hE := T.2.1.2.2.1
                rw [if_neg (nI_ge qg (by omega)), i32_32, i32_48, nI_add, nI_add, clp (show 32 + g < 2 ^ 31 by omega), clp (show 48 + g < 2 ^ 31 by omega), l4, i32_2, rem (2 * et + v) 2 (by omega) (by omega) (by omega), show (2 * et + v) % 2 = v by omega]
                refine ⟨xin_nI (by omega) (by omega), ?_⟩
                have est := st_tie H T qg
                by_cases q8 : m_I S 8 g = 0
                · rw [if_pos (est.mpr q8)]
                  rw [if_neg (fun z => z.2.1 q8)] at hj
                  exact hj
                · rw [if_neg (fun z => q8 (est.mp z))]
                  refine ⟨xin_nI (by omega) (by omega), ?_⟩
                  by_cases q9 : v = 0
                  · rw [if_pos (by rw [q9]; rfl)]
                    rw [if_pos ⟨qg, q8, by rw [s9, q9]; rfl⟩] at hj
                    exact hj
                  · rw [if_neg (nI_ne0 (by omega) (by omega))]
                    rw [if_neg (fun z => absurd (s9.symm.trans z.2.2) (nI_ne0 (by omega) (by omega)))] at hj
                    exact hj
              · rw [if_pos (nI_le (by omega) (by omega))]
                rw [if_neg (fun z => qg z.1)] at hj
                exact hj
          · rw [if_neg (ge_n 39 39 (by decide) (by omega) (by omega)), e1, hT7.2.1]
            obtain ⟨r1, r2, r3⟩ := resign_ok (K := K) (Ls := Ls) (xs := xs) hJ hP H T hg k
            by_cases qg : g < G
            · obtain ⟨m, h12, hm, hside⟩ := side_tie H T qg
              have est := st_tie H T qg
              rw [if_neg (fun e => by have := (nI_eq (by omega) (by omega)).mp e; omega), i32_32, nI_add, clp (show 32 + g < 2 ^ 31 by omega)]
              refine ⟨xin_nI (by omega) (by omega), ?_⟩
              by_cases q8 : m_I S 8 g = 0
              · rw [if_pos (est.mpr q8)]
                exact ⟨_, hside, r3 m qg q8 h12 hm⟩
              · rw [if_neg (fun z => q8 (est.mp z))]
                exact r2 qg q8
            · rw [if_pos (by congr 1; omega)]
              exact r1 qg
        · rw [if_neg (ge_n 32 32 (by decide) (by omega) (by omega))]
          unfold gL_isDone_429
          have hm60 : three % 60 < 60 := Nat.mod_lt _ (by omega)
          by_cases q : nI three - nI three / 30 * 30 = 0
          · rw [if_pos q]
            exact isPassed_ok (z := 1001) hJ hP H T hg (by omega) k'
          · rw [if_neg q, show (60 : Int32) = nI 60 from rfl, rem three 60 (by omega) (by omega) (by omega)]
            exact isPassed_ok hJ hP H T hg (by omega) k'
      · rw [if_neg (ge_n 28 28 (by decide) (by omega) (by omega))]
        have w362 : ∀ p, p < 50 → gL_isDone_362 lo t Ls xs K h L (nI three) (nI g) (nI p) := fun p hp => by
          unfold gL_isDone_362 gL_isDone_381
          have hm60 : three % 60 < 60 := Nat.mod_lt _ (by omega)
          by_cases q : nI three - nI three / 30 * 30 = 0
          · rw [if_pos q]
            exact isPlayed_ok (z := 1001) hJ hP H T hg hp (by omega) k'
          · rw [if_neg q, show (60 : Int32) = nI 60 from rfl, rem three 60 (by omega) (by omega) (by omega)]
            exact isPlayed_ok hJ hP H T hg hp (by omega) k'
        by_cases q30 : nI two - nI two / 30 * 30 = 0
        · rw [if_pos q30]; exact w362 49 (by omega)
        · rw [if_neg q30]
          have hm12 : two / 3 % 12 < 12 := Nat.mod_lt _ (by omega)
          have hm49 : two / 3 % 49 < 49 := Nat.mod_lt _ (by omega)
          rw [i32_3, quo two 3 (by omega) (by omega) (by omega), show (12 : Int32) = nI 12 from rfl, rem (two / 3) 12 (by omega) (by omega) (by omega), show (49 : Int32) = nI 49 from rfl, rem (two / 3) 49 (by omega) (by omega) (by omega)]
          split
          · exact w362 _ (by omega)
          · exact w362 _ (by omega)
    · rw [if_neg (ge_n 10 10 (by decide) (by omega) (by omega)), e0, hT7.1, nI_1, rem one (n + 1) (by omega) (by omega) (by omega), rem two (n + 1) (by omega) (by omega) (by omega)]
      have ha : one % (n + 1) < n + 1 := Nat.mod_lt _ (by omega)
      have hb : two % (n + 1) < n + 1 := Nat.mod_lt _ (by omega)
      refine ⟨nI_ne0 (by omega) (by omega), nI_ne0 (by omega) (by omega), ?_⟩
      have w277 : ∀ m, m < 10000 → gL_isDone_277 lo t Ls xs K h L (nI three) (nI (one % (n + 1))) (nI (two % (n + 1))) (nI m) := fun m hm => by
        unfold gL_isDone_277
        have h7 : three / 40 % 7 < 7 := Nat.mod_lt _ (by omega)
        have h13 : three / 280 % 13 < 13 := Nat.mod_lt _ (by omega)
        rw [show (40 : Int32) = nI 40 from rfl, quo three 40 (by omega) (by omega) (by omega), show (7 : Int32) = nI 7 from rfl, rem (three / 40) 7 (by omega) (by omega) (by omega), show (280 : Int32) = nI 280 from rfl, quo three 280 (by omega) (by omega) (by omega), show (13 : Int32) = nI 13 from rfl, rem (three / 280) 13 (by omega) (by omega) (by omega)]
        exact isBegun_ok hJ hP H T (by omega) (by omega) hm (by omega) (by omega) k'
      have h900 : three % 900 < 900 := Nat.mod_lt _ (by omega)
      by_cases q : nI three - nI three / 40 * 40 = 0
      · rw [if_pos q]; exact w277 3601 (by omega)
      · rw [if_neg q, show (900 : Int32) = nI 900 from rfl, rem three 900 (by omega) (by omega) (by omega)]
        exact w277 _ (by omega)
  · rw [if_neg (ge_n 4 4 (by decide) (by omega) (by omega))]
    have hm8 : two % 8 < 8 := Nat.mod_lt _ (by omega)
    by_cases q : nI two - nI two / 30 * 30 = 0
    · rw [if_pos q]; exact player_ok (r := 21) hJ hP H T (by omega) k
    · rw [if_neg q, show (8 : Int32) = nI 8 from rfl, rem two 8 (by omega) (by omega) (by omega)]
      exact player_ok hJ hP H T (by omega) k
theorem isDone_ok (hLs : Ls < 2 ^ 31) (hJ : J ≤ 60) (hP : P ≤ J) (H : Rel 16 lo h S t c s n G N P gm nd gl nl ol kp) (T : LT S L J n G ol.length Q N P) {q : Nat} (hq : q < 1000) (k : ∀ h2 S2 L2, Tie lo t (J + 1) h2 S2 L2 → K 1 h2 L2) : gL_isDone lo t Ls xs K h L (nI q) := by
  have h16 := H.G16
  have hT7 := T.2.2.1
  have e1 : (1 : Int32).toNatClampNeg = 1 := by decide
  unfold gL_isDone
  rw [i32_1, i32_2, i32_3, nI_add, nI_add, nI_add]
  refine part_ok hLs (d := 50) (by omega) (by omega) (by omega) fun w hw => ?_
  refine part_ok hLs (d := 6000) (by omega) (by omega) (by omega) fun one h1 => ?_
  refine part_ok hLs (d := 7000) (by omega) (by omega) (by omega) fun two h2 => ?_
  refine part_ok hLs (d := 8000) (by omega) (by omega) (by omega) fun three h3 => ?_
  have w90 : ∀ g, g ≤ G → gL_isDone_90 lo t Ls xs K h L (nI w) (nI one) (nI two) (nI three) (nI g) := fun g hg => done_90 hJ hP H T hw h1 h2 h3 hg k
  have w60 : gL_isDone_60 lo t Ls xs K h L (nI w) (nI one) (nI two) (nI three) := by
    unfold gL_isDone_60
    rw [e1, hT7.2.1]
    exact w90 G (Nat.le_refl _)
  have ec : (nI 1).toNatClampNeg = 1 := clp (by omega)
  by_cases q1 : nI one - nI one / 20 * 20 = 0
  · rw [if_pos q1]; exact w60
  · rw [if_neg q1, ec, hT7.2.1]
    by_cases q2 : nI G = 0
    · rw [if_pos q2]; exact w60
    · have hG0 : 0 < G := by
        rcases Nat.eq_zero_or_pos G with z | z
        · rw [z] at q2; exact absurd nI_0 q2
        · exact z
      rw [if_neg q2, pk_sub (by omega)]
      by_cases q3 : nI one - nI one / nI 3 * nI 3 = 0
      · rw [if_pos q3]; exact w90 _ (by omega)
      · rw [if_neg q3, pk_rem (show one < 2 ^ 31 by omega) hG0 (by omega)]
        have hmod : one % G < G := Nat.mod_lt _ hG0
        exact ⟨q2, w90 _ (by omega)⟩
end DONE
