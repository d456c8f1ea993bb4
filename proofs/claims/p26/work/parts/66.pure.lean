/-! PURE 21: judge and settle. -/
theorem ishl_bit : ∀ k, k < 16 → ∀ i, i < 32 → (x_ishl 1 (nI k)).toBitVec.getLsbD i = decide (i = k) := by decide +kernel
theorem ishr_amt : ∀ k, k < 16 → ((nI k &&& 31).toBitVec.smod 32).toNat = k := by decide +kernel
theorem ishr_bit (w : Int32) {k : Nat} (hk : k < 16) : ((x_ishr w (nI k)) &&& 1 = 0) ↔ w.toBitVec.getLsbD k = false := by
  have e : (x_ishr w (nI k)).toBitVec.getLsbD 0 = w.toBitVec.getLsbD k := by
    unfold x_ishr
    rw [Int32.toBitVec_shiftRight, BitVec.sshiftRight_eq', ishr_amt k hk, BitVec.getLsbD_sshiftRight]
    simp; omega
  rw [← Int32.toBitVec_inj, Int32.toBitVec_and, show (1 : Int32).toBitVec = 1#32 from rfl, BitVec.and_one_eq_setWidth_ofBool_getLsbD, e]
  cases w.toBitVec.getLsbD k <;> decide
section JUDGE
variable {u mo : Nat} {h : TH} {S : MS} {t c s n G N P : Nat} {gm nd : Nat → Nat} {gl nl : Nat → List BW} {ol : List Nat} {kp : Nat → Bool}
theorem ofs_bit {S : MS} {ol : List Nat} : ∀ k, k ≤ 16 → ∀ i, i < 32 → (ofs S ol k).toBitVec.getLsbD i = (decide (i < k) && ofb S ol i) := by
  intro k
  induction k with
  | zero => intro _ i _; simp [ofs]
  | succ k ih =>
    intro hk i hi
    have h1 := ih (by omega) i hi
    unfold ofs
    by_cases hb : ofb S ol k = true
    · rw [if_pos hb, Int32.toBitVec_or, BitVec.getLsbD_or, h1, ishl_bit k (by omega) i hi]
      by_cases e : i = k
      · subst e; simp [hb]
      · simp [e]
        by_cases e2 : i < k
        · simp [e2, show i < k + 1 by omega]
        · simp [e2, show ¬ i < k + 1 by omega]
    · rw [if_neg hb, h1]
      by_cases e : i = k
      · subst e; simp at hb; simp [hb]
      · by_cases e2 : i < k
        · simp [e2, show i < k + 1 by omega]
        · simp [e2, show ¬ i < k + 1 by omega]
theorem ofs_0 {S : MS} {ol : List Nat} {G : Nat} (hG : G ≤ 16) : ofs S ol G = 0 ↔ ∀ i, i < G → ofb S ol i = false := by
  constructor
  · intro h0 i hi
    have := ofs_bit (S := S) (ol := ol) G hG i (by omega)
    rw [h0] at this
    simp [hi] at this
    exact this
  · intro hz
    apply Int32.toBitVec_inj.mp
    apply BitVec.eq_of_getLsbD_eq
    intro i hi
    rw [ofs_bit G hG i hi]
    by_cases e : i < G
    · simp [hz i e]
    · simp [e]
/-- the state behind the marking of a game as void, in the reference -/
def vS (S : MS) (g E : Nat) : MS := if m_I S 8 g = 0 then ms_i (ms_I (ms_I (ms_I S 9 g 1) 8 g 2) 17 E (nI g)) 19 (nI (E + 1)) else ms_I S 9 g 1
def vH (h : TH) (S : MS) (p g : Nat) : TH := if m_I S 8 g = 0 then s_I (s_I h p 9 1) p 8 2 else s_I h p 9 1
def vO (S : MS) (g : Nat) (ol : List Nat) : List Nat := if m_I S 8 g = 0 then ol ++ [g] else ol
theorem void_X9 (H : Rel u mo h S t c s n G N P gm nd gl nl ol kp) {g : Nat} (hg : g < G) : ∃ kp2 S2, fX9_finds (vS S g ol.length) (m_i (vS S g ol.length) 19) = some S2 ∧ Rel u mo (vH h S (gm g) g) S2 t c s n G N P gm nd gl nl (vO S g ol) kp2 ∧ m_i S2 47 = m_i S 47 ∧ (∀ i, m_I S2 9 i = if i = g then 1 else m_I S 9 i) := by
  have h16 := H.G16
  have hG := H.gok
  have hord := H.2.2.2.1.1
  have hlen := H.2.2.2.1.2.1
  by_cases h8 : m_I S 8 g = 0
  · have e1 : vS S g ol.length = ms_i (ms_I (ms_I (ms_I S 9 g 1) 8 g 2) 17 ol.length (nI g)) 19 (nI (ol.length + 1)) := by unfold vS; rw [if_pos h8]
    have e2 : vH h S (gm g) g = s_I (s_I h (gm g) 9 1) (gm g) 8 2 := by unfold vH; rw [if_pos h8]
    have e3 : vO S g ol = ol ++ [g] := by unfold vO; rw [if_pos h8]
    rw [e1, e2, e3]
    obtain ⟨hlt, hno⟩ := H.ol_lt hg h8
    generalize hW : ms_i (ms_I (ms_I (ms_I S 9 g 1) 8 g 2) 17 ol.length (nI g)) 19 (nI (ol.length + 1)) = W
    have w9 : ∀ i, m_I W 9 i = if i = g then 1 else m_I S 9 i := fun i => by rw [← hW]; simp [mI_i, mI_I]
    have w17 : ∀ i, m_I W 17 i = if i = ol.length then nI g else m_I S 17 i := fun i => by rw [← hW]; simp [mI_i, mI_I]
    have w5 : m_I W 5 = m_I S 5 := by rw [← hW]; funext i; simp [mI_i, mI_I]
    have w6 : m_I W 6 = m_I S 6 := by rw [← hW]; funext i; simp [mI_i, mI_I]
    have w1 : m_I W 1 = m_I S 1 := by rw [← hW]; funext i; simp [mI_i, mI_I]
    have w2 : m_I W 2 = m_I S 2 := by rw [← hW]; funext i; simp [mI_i, mI_I]
    have wi : ∀ k, k ≠ 19 → m_i W k = m_i S k := fun k hk => by rw [← hW, mi_i, if_neg hk]; rfl
    have wl : (ol ++ [g]).length = ol.length + 1 := by rw [List.length_append]; rfl
    obtain ⟨S2, k1, k2, k3⟩ := finds_X9 (l := ol ++ [g]) (S := W) H.2.1.1 (by rw [wl]; omega) (by rw [wi 0 (by omega)]; exact H.2.1.2.2.1) (fun x hx => by
      rw [w9, w5, w6]
      rcases List.mem_append.mp hx with hx | hx
      · obtain ⟨q1, q2, q3⟩ := hG x hx
        exact ⟨q1, by split; exact Or.inr rfl; exact q2, q3⟩
      · simp at hx
        subst hx
        obtain ⟨-, ⟨-, -, -, a, b, -, ha, hb, -, ha8, hb8, hab, -⟩, -⟩ := H.gM hg
        exact ⟨by omega, Or.inr (by rw [if_pos rfl]), a, b, ha, hb, ha8, hb8, hab⟩) (fun j x hj => by
      rw [w17]
      rw [List.getElem?_append] at hj
      split at hj
      · rename_i hlt2
        rw [if_neg (by omega)]; exact hord j x hj
      · have : j - ol.length = 0 := by
          rcases Nat.eq_zero_or_pos (j - ol.length) with q | q
          · exact q
          · rw [List.getElem?_eq_none (by simp; omega)] at hj; cases hj
        rw [this] at hj
        simp at hj
        rw [if_pos (by omega), hj]) (fun x hx => by
      rw [w5, w6]
      rcases List.mem_append.mp hx with hx | hx
      · exact H.gon x hx
      · simp at hx
        subst hx
        exact (H.gM hg).on H.2.1.1) (fun b h1 h2 => by rw [w1, w2]; exact H.rky.z b h1 h2)
    have w19 : m_i W 19 = nI (ol ++ [g]).length := by rw [wl, ← hW, mi_i, if_pos rfl]
    refine ⟨_, S2, by rw [w19]; exact k1, H.void_0 hg h8 (by rw [hW]; exact k2) (fun b hb => by rw [k3 b hb, stdF_12 k2]), by rw [k2.1, wi 47 (by omega)], fun i => by rw [k2.2.2.1 9 (by omega) (by omega)]; exact w9 i⟩
  · have e1 : vS S g ol.length = ms_I S 9 g 1 := by unfold vS; rw [if_neg h8]
    have e2 : vH h S (gm g) g = s_I h (gm g) 9 1 := by unfold vH; rw [if_neg h8]
    have e3 : vO S g ol = ol := by unfold vO; rw [if_neg h8]
    rw [e1, e2, e3]
    have w9 : ∀ i, m_I (ms_I S 9 g 1) 9 i = if i = g then 1 else m_I S 9 i := fun i => by simp [mI_I]
    have wo : ∀ a, a ≠ 9 → m_I (ms_I S 9 g 1) a = m_I S a := fun a ha => by funext i; rw [mI_I, if_neg (fun z => ha z.1)]
    obtain ⟨S2, k1, k2, k3⟩ := finds_X9 (l := ol) (S := ms_I S 9 g 1) H.2.1.1 hlen H.2.1.2.2.1 (fun x hx => by
      rw [w9, wo 5 (by omega), wo 6 (by omega)]
      obtain ⟨q1, q2, q3⟩ := hG x hx
      exact ⟨q1, by split; exact Or.inr rfl; exact q2, q3⟩) (fun j x hj => by rw [wo 17 (by omega)]; exact hord j x hj) (fun x hx => by rw [wo 5 (by omega), wo 6 (by omega)]; exact H.gon x hx) (fun b h1 h2 => by rw [wo 1 (by omega), wo 2 (by omega)]; exact H.rky.z b h1 h2)
    refine ⟨kp, S2, by rw [show m_i (ms_I S 9 g 1) 19 = m_i S 19 from rfl, H.2.2.2.1.2.2.1]; exact k1, H.void_1 hg h8 k2 (fun b hb => by rw [k3 b hb, stdF_12 k2]), by rw [k2.1]; rfl, fun i => by rw [k2.2.2.1 9 (by omega) (by omega)]; exact w9 i⟩
theorem annul_X3 (H : Rel u mo h S t c s n G N P gm nd gl nl ol kp) {g : Nat} (hg : g < G) : fX3_annul h (gm g) = some (vH h S (gm g) g) := by
  have hM := (H.gM hg).2.1
  have e8 : t_I (s_I h (gm g) 9 1) (gm g) 8 = t_I h (gm g) 8 := by rw [I_sI, if_neg (by omega)]
  unfold fX3_annul vH
  rw [if_pos hM.1, e8, hM.2.2.1]
  by_cases h8 : m_I S 8 g = 0
  · rw [if_pos h8, if_pos h8]
  · rw [if_neg h8, if_neg h8]
theorem call_judge {K : Nat} (H0 : RR mo t K h S) (x : Int32) : Agr mo t K [eI, eS] (fX8_judge h t x) (fX9_judge S x) := by
  obtain ⟨c, s, n, G, N, P, gm, nd, gl, nl, ol, kp, hP, H⟩ := id H0
  have h16 := H.G16
  unfold fX8_judge fX9_judge
  rw [if_pos H.1.1, isGame_X9 H, Option.bind_some]
  rcases matchOf_X8 H x with ⟨g, hg, rfl, e⟩ | ⟨e1, e⟩
  · have hM := (H.gM hg).2.1
    rw [isN_nI hg (by omega), if_neg tf, e, Option.bind_some, xcs_1]
    dsimp only
    rw [Option.bind_some, if_pos hM.1]
    unfold fX3_goesOn
    rw [if_pos hM.1, hM.2.2.1, if_pos (xin_nI (show g < 16 by omega) (by omega)), clp (show g < 2 ^ 31 by omega)]
    have bad : ∀ r8, r8 = some (.inr (eS, h)) → Agr (α := Int32) mo t K [eI, eS] r8 (fX9_judge_38 S (nI g) 2) :=
      fun r8 h8 => Agr.err H0 (fun n => Sq.f) (j := 1) (E := eS) (b := 0) (S2 := ms_i S 47 2) rfl (by omega) h8 (by unfold fX9_judge_38; rw [fails_2]; rfl) i47
    by_cases h8 : m_I S 8 g = 0
    · rw [if_pos h8, if_pos h8, Option.bind_some, if_neg tf]
      exact bad _ rfl
    · rw [if_neg h8, if_neg h8, Option.bind_some, if_pos rfl, hM.2.1]
      by_cases h9 : m_I S 9 g = 0
      · rw [if_pos h9, if_pos h9]
        have e47 : Sq n S (ms_i S 47 0) := Sq.f
        have H1 := H.sq e47
        obtain ⟨kp2, S2, k1, k2, k3, -⟩ := void_X9 H1 hg
        have v1 : vS (ms_i S 47 0) g ol.length = ms_I (ms_i S 47 0) 9 g 1 := by unfold vS; exact if_neg h8
        have v2 : vH h (ms_i S 47 0) (gm g) g = vH h S (gm g) g := rfl
        have v3 : vO (ms_i S 47 0) g ol = ol := by unfold vO; exact if_neg h8
        rw [v1] at k1
        rw [v2, v3] at k2
        obtain ⟨S3, m1, m2, m3⟩ := off_X9 k2
        refine ⟨vH h S (gm g) g, S3, ⟨c, s, n, G, N, P, gm, nd, gl, nl, ol, kp2, by omega, k2.sq m2⟩, Or.inl ⟨ofs S2 ol G, ?_, ?_, ?_⟩⟩
        · rw [annul_X3 H hg, Option.bind_some, if_pos k2.1.1, k2.1.2.1, Option.bind_some, if_pos k2.cb.1, offSet_X2 k2, Option.bind_some]
        · unfold fX9_judge_38
          rw [fails_0, Option.bind_some]
          dsimp only
          rw [if_pos rfl, if_pos (xin_nI (show g < 16 by omega) (by omega)), clp (show g < 2 ^ 31 by omega), k1, Option.bind_some, m1, Option.bind_some]
        · rw [m3, k3]; exact i47
      · rw [if_neg h9, if_neg h9]
        exact bad _ rfl
  · rw [e1, if_pos rfl, e, Option.bind_some, xcs_2]
    exact Agr.err H0 (fun n => Sq.f) (j := 0) (E := eI) (b := 0) (S2 := ms_i S 47 1) rfl (by omega) rfl (by unfold fX9_judge_38; rw [fails_1]; rfl) i47
/-- how many games aren't void -/
def vc (S : MS) (G : Nat) : Nat := (List.range G).countP fun i => decide (m_I S 9 i = 0)
theorem settle_18 (H : Rel u mo h S t c s n G N P gm nd gl nl ol kp) {k12 : MS → Int32 → Int32 → Option (Int32 × MS)} {a1 : Int32} {g : Nat} (hg : g < G) (hb : ofb S ol g = true) (hl : ∀ j, j < g → ofb S ol j = false) : ∀ (d fu j : Nat), j + d = g → d < fu → fX9_settle_18 k12 fu S a1 (ofs S ol G) (nI j) = fX9_settle_75 k12 (vS S g ol.length) a1 := by
  have h16 := H.G16
  intro d
  induction d with
  | zero =>
    intro fu j hj hf
    obtain ⟨fu, rfl⟩ : ∃ i, fu = i + 1 := ⟨fu - 1, by omega⟩
    have hjg : j = g := by omega
    subst hjg
    rw [fX9_settle_18, if_neg (fun z => by have := (ishr_bit _ (by omega)).mp z; rw [ofs_bit G h16 j (by omega), hb] at this; simp [hg] at this), if_pos (xin_nI (show j < 16 by omega) (by omega)), clp (show j < 2 ^ 31 by omega)]
    have e8 : m_I (ms_I S 9 j 1) 8 j = m_I S 8 j := by rw [mI_I, if_neg (by omega)]
    rw [e8]
    unfold vS
    by_cases h8 : m_I S 8 j = 0
    · obtain ⟨hlt, -⟩ := H.ol_lt hg h8
      rw [if_pos h8, if_pos h8, Option.bind_some]
      have e19 : m_i (ms_I (ms_I S 9 j 1) 8 j 2) 19 = nI ol.length := H.2.2.2.1.2.2.1
      have e19b : m_i (ms_I (ms_I (ms_I S 9 j 1) 8 j 2) 17 ol.length (nI j)) 19 = nI ol.length := H.2.2.2.1.2.2.1
      rw [e19, if_pos (xin_nI (show ol.length < 16 by omega) (by omega)), Option.bind_some, clp (show ol.length < 2 ^ 31 by omega), e19b, nI_1]
    · rw [if_neg h8, if_neg h8]
  | succ d ih =>
    intro fu j hj hf
    obtain ⟨fu, rfl⟩ : ∃ i, fu = i + 1 := ⟨fu - 1, by omega⟩
    rw [fX9_settle_18, if_pos ((ishr_bit _ (by omega)).mpr (by rw [ofs_bit G h16 j (by omega), hl j (by omega)]; simp)), nI_1]
    exact ih fu (j + 1) (by omega) (by omega)
theorem settle_loop : ∀ (V : Nat) (h : TH) (S : MS) (ol : List Nat) (kp : Nat → Bool) (k f1 f2 : Nat), Rel u mo h S t c s n G N P gm nd gl nl ol kp → vc S G = V → V + k ≤ 16 → V < f1 → V < f2 →
    ∃ v h2 S2 ol2 kp2, fX2_annulWhileOff_2 f1 h c (nI k) = some (v, h2) ∧ fX9_settle_12 f2 S (nI k) (ofs S ol G) = some (v, S2) ∧ Rel u mo h2 S2 t c s n G N P gm nd gl nl ol2 kp2 ∧ m_i S2 47 = m_i S 47 := by
  intro V
  induction V using Nat.strongRecOn with
  | _ V ih =>
    intro h S ol kp k f1 f2 H hV hk hf1 hf2
    have h16 := H.G16
    obtain ⟨f1, rfl⟩ : ∃ j, f1 = j + 1 := ⟨f1 - 1, by omega⟩
    obtain ⟨f2, rfl⟩ : ∃ j, f2 = j + 1 := ⟨f2 - 1, by omega⟩
    rw [fX2_annulWhileOff_2, if_pos H.cb.1, H.cb.2.2.1.1, Option.bind_some, if_pos H.cb.2.2.1.2.1, H.cb.2.2.1.2.2, fX9_settle_12]
    by_cases h16k : 16 ≤ k
    · have hV0 : V = 0 := by omega
      have hno : ∀ i, i < G → ofb S ol i = false := fun i hi => by
        unfold ofb
        have : ¬ m_I S 9 i = 0 := fun z => by
          have h1 : (List.range G).countP (fun _ => false) < vc S G := countP_lt (x := i) (fun _ q => by cases q) (List.mem_range.mpr hi) (by simp [z]) rfl
          omega
        simp [this]
      rw [if_pos (nI_le h16k (by omega)), if_pos ((ofs_0 h16).mpr hno), show k = 16 by omega]
      exact ⟨_, h, S, ol, kp, rfl, rfl, H, rfl⟩
    · rw [if_neg (nI_ge (by omega) (by omega))]
      have hlow := lowestOff_2 H 16 FU 0 (by omega) (by unfold FU; omega)
      unfold fX2_lowestOff
      rcases hlow with ⟨g, -, hg, hb, hl, e⟩ | ⟨hno, e⟩
      · rw [show (0 : Int32) = nI 0 from rfl, e, Option.bind_some, if_neg (by simp), Option.bind_some, if_pos (H.gM hg).k3, annul_X3 H hg, Option.bind_some, nI_1]
        have hne : ¬ ofs S ol G = nI 0 := fun z => by
          have := (ofs_0 h16).mp z g hg
          rw [hb] at this; cases this
        rw [if_neg hne, settle_18 H hg hb (fun j hj => hl j (Nat.zero_le _) hj) g FU 0 (by omega) (by unfold FU; omega)]
        obtain ⟨kp2, S2, k1, k2, k3, k4⟩ := void_X9 H hg
        obtain ⟨S3, m1, m2, m3⟩ := off_X9 k2
        unfold fX9_settle_75
        rw [k1, Option.bind_some, m1, Option.bind_some, nI_1]
        have k2' := k2.sq m2
        have hv9 : ∀ i, m_I S3 9 i = if i = g then 1 else m_I S 9 i := fun i => by rw [m2.I' 9 (by omega)]; exact k4 i
        have hg9 : m_I S 9 g = 0 := by
          unfold ofb at hb
          rw [Bool.and_eq_true, decide_eq_true_eq] at hb
          exact hb.1
        have hlt : vc S3 G < vc S G := by
          refine countP_lt (x := g) (fun i q => ?_) (List.mem_range.mpr hg) (by simp [hg9]) (by simp [hv9])
          rw [hv9] at q
          by_cases e2 : i = g
          · subst e2; simp at q
          · simpa [e2] using q
        obtain ⟨v, h2, S4, ol2, kp3, n1, n2, n3, n4⟩ := ih (vc S3 G) (by omega) (vH h S (gm g) g) S3 (vO S g ol) kp2 (k + 1) f1 f2 k2' rfl (by omega) (by omega) (by omega)
        rw [ofs_sq m2] at n2
        exact ⟨v, h2, S4, ol2, kp3, n1, n2, n3, n4.trans (m3.trans k3)⟩
      · rw [show (0 : Int32) = nI 0 from rfl, e, Option.bind_some, if_pos rfl, if_pos (show ofs S ol G = nI 0 from (ofs_0 h16).mpr (fun i hi => hno i (Nat.zero_le _) hi))]
        exact ⟨_, h, S, ol, kp, rfl, rfl, H, rfl⟩
theorem call_settle {K : Nat} (H0 : RR mo t K h S) : ∃ v h2 S2, fX8_settle h t = some (v, h2) ∧ fX9_settle S = some (v, S2) ∧ RR mo t (K + 1) h2 S2 ∧ m_i S2 47 = 0 := by
  obtain ⟨c, s, n, G, N, P, gm, nd, gl, nl, ol, kp, hP, H⟩ := id H0
  have h16 := H.G16
  have e47 : Sq n S (ms_i S 47 0) := Sq.f
  have H1 := H.sq e47
  obtain ⟨S1, m1, m2, m3⟩ := off_X9 H1
  have H2 := H1.sq m2
  have hvc : vc S1 G ≤ G := by
    have := List.countP_le_length (p := fun i => decide (m_I S1 9 i = 0)) (l := List.range G)
    simpa [vc] using this
  obtain ⟨v, h2, S2, ol2, kp2, n1, n2, n3, n4⟩ := settle_loop (vc S1 G) h S1 ol kp 0 FU FU H2 rfl (by omega) (by unfold FU; omega) (by unfold FU; omega)
  refine ⟨v, h2, S2, ?_, ?_, ⟨c, s, n, G, N, P, gm, nd, gl, nl, ol2, kp2, by omega, n3⟩, by rw [n4, m3]; exact i47⟩
  · unfold fX8_settle fX2_annulWhileOff
    rw [if_pos H.1.1, H.1.2.1, Option.bind_some, if_pos H.cb.1, show (0 : Int32) = nI 0 from rfl, n1, Option.bind_some]
  · unfold fX9_settle
    rw [m1, Option.bind_some]
    rw [ofs_sq m2] at n2
    exact n2
end JUDGE
