/-! P26 15: the seconds of a move on both sides; what lies in the law's scratch row. -/
section CLK
variable {lo : Nat} {h : TH} {S L : MS} {t c s n G N P Q J : Nat} {gm nd : Nat → Nat} {gl nl : Nat → List BW} {ol : List Nat} {kp : Nat → Bool}
variable {Ls : Nat} {xs : Nat → Int32} {K : Int32 → TH → MS → Prop}
theorem clk_tie (H : Rel 16 lo h S t c s n G N P gm nd gl nl ol kp) (T : LT S L J n G ol.length Q N P) {g m z : Nat} (hg : g < G) (h12 : m_I S 12 g = nI m) (hm : m ≤ 4000) (hz : z ≤ 1000) :
    ∃ b S1 L1 h1, fX9_runsOut S (nI g) (nI z) = some (b, S1) ∧ fL_runsOut L (nI g) (nI ((bg S g + m) % 2)) (nI z) = some (b, L1) ∧ Rel 16 lo h1 S1 t c s n G N P gm nd gl nl ol kp ∧ LT S1 L1 J n G ol.length Q N P ∧
      m_i S1 = m_i S ∧ m_j S1 = m_j S ∧ m_J S1 = m_J S ∧ (∀ x, x ≠ 14 → x ≠ 15 → m_I S1 x = m_I S x) ∧ m_J L1 = m_J L ∧ ∀ j, j ≠ 5 → m_I L1 j = m_I L j := by
  have h16 := H.G16
  obtain ⟨a, b, x, y, hc, et, v, st, m', ps, M0, M1, p0, p1, len, ⟨ha, hb, hab, hx, hy, hxy, hc4, het, hv, hst, hsv, hm', hps, -, hM0, hM1, hp0, hp1, hl1, hl2⟩, ⟨s3, s4, s5, s6, s7, s10, s9, s8, s12, s13, s14a, s14b, s15a, s15b, s16⟩, l1, l2, l3, l4, l5, l6, l7, l8, l9, l10⟩ := gnum H T hg
  obtain ⟨bb, h1, S1, t1, t2, t3, t4, t5, t6, t7, t8, t9⟩ := take_ok H hg hz h12 (by omega)
  have hk : (bg S g + m) % 2 < 2 := Nat.mod_lt _ (by omega)
  have e14 : m_I S 14 (2 * g + (bg S g + m) % 2) = nI (if (bg S g + m) % 2 = 0 then M0 else M1) := by
    by_cases q : (bg S g + m) % 2 = 0
    · rw [q, if_pos rfl]; exact s14a
    · rw [show (bg S g + m) % 2 = 1 by omega, if_neg (by decide)]; exact s14b
  have e15 : m_I S 15 (2 * g + (bg S g + m) % 2) = nI (if (bg S g + m) % 2 = 0 then p0 else p1) := by
    by_cases q : (bg S g + m) % 2 = 0
    · rw [q, if_pos rfl]; exact s15a
    · rw [show (bg S g + m) % 2 = 1 by omega, if_neg (by decide)]; exact s15b
  have hMM : (if (bg S g + m) % 2 = 0 then M0 else M1) ≤ 3600 := by split <;> omega
  have hpp : (if (bg S g + m) % 2 = 0 then p0 else p1) < 6 := by split <;> omega
  have r9 := runsOut_9 (S := S) (show g < 16 by omega) (show m < 5000 by omega) h12 hMM hpp hl1 hl2 hz e14 e15 s16
  generalize hkd : (bg S g + m) % 2 = k at *
  have e5 : m_I L 5 (16 * k + g) = nI (if k = 0 then M0 else M1) := by
    have : k = 0 ∨ k = 1 := by omega
    rcases this with rfl | rfl
    · rw [if_pos rfl, show 16 * 0 + g = g by omega]; exact l5
    · rw [if_neg (by decide), show 16 * 1 + g = 16 + g by omega]; exact l6
  obtain ⟨L1, f1, f2, f3, f4, f5, f6, f7, f8⟩ := runsOut_L (L := L) (show g < 16 by omega) hk hMM hp0 hp1 hl1 hl2 hz e5 l7 l8
  have eS : S1 = _ := (Prod.mk.inj (Option.some.inj (t2.symm.trans r9))).2
  subst eS
  exact ⟨_, _, L1, h1, r9, f1, t3, T.clk (M0 := M0) (M1 := M1) hg hk s15a s15b f5 f4 f6 f7 f8, t6, t7, t8, t9, f4, f5⟩
theorem LT.o10 {L2 : MS} (T : LT S L J n G ol.length Q N P) (e : m_I L2 = m_I L) (e2 : ∀ j q, j ≠ 10 → m_J L2 j q = m_J L j q) : LT S L2 J n G ol.length Q N P := by
  obtain ⟨a, b, c, d2, d3, d4, d5, d6⟩ := T
  unfold LT
  rw [e]
  refine ⟨a, b, c, d2, fun g hg => ⟨?_, ?_⟩, d4, d5, fun i hi => ?_⟩
  · have := (d3 g hg).1
    unfold LGm at this ⊢
    rw [e]; exact this
  · exact (d3 g hg).2.eq (Nat.le_refl _) (Nat.le_refl _) rfl (fun _ _ => ⟨rfl, rfl, rfl⟩) (fun _ _ => by rw [e]) (fun j _ => ⟨e2 0 j (by omega), e2 1 j (by omega)⟩) (fun j h1 h2 => by omega)
  · have := d6 i hi
    unfold LNd at this ⊢
    rw [e]; exact this
/-- the board behind a call -/
theorem board_tie {h2 : TH} {S2 L2 : MS} {g : Nat} (hJ : J ≤ 60) (R : Tie lo t (J + 1) h2 S2 L2) (hG : m_I L2 7 1 = nI G) (h16 : G ≤ 16) (hg : g < G) (k : ∀ h2 S2 L2, Tie lo t (J + 1) h2 S2 L2 → K 1 h2 L2) :
    gL_isBoard lo t Ls xs (fun v9 h10 L11 => (if v9 = 0 then K (0 : Int32) h10 L11 else K (1 : Int32) h10 L11)) h2 L2 (nI g) := by
  have R' := R
  obtain ⟨c, s, n, G', N, P, gm, nd, gl, nl, ol, kp, Q, hP, H, T⟩ := R
  have eG : G = G' := (nI_eq (by omega) (by have := H.G16; omega)).mp (hG.symm.trans T.2.2.1.2.1)
  subst eG
  refine isBoard_ok H T (by omega) hg fun z hz => ?_
  rw [if_neg (by decide)]
  exact k _ S2 L2 (R'.Z hz)
end CLK
