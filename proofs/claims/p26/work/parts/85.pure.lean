/-! PURE 40: merge: how many are missing. -/
section MERGE1
variable {u mo : Nat} {h : TH} {S : MS} {t c s n G N P : Nat} {gm nd : Nat → Nat} {gl nl : Nat → List BW} {ol : List Nat} {kp : Nat → Bool}
theorem Rel.tws (H : Rel u mo h S t c s n G N P gm nd gl nl ol kp) : t_R h s 1 = some (s + 2) ∧ t_kd h (s + 2) = 13 ∧ t_ln h (s + 2) = 60 := H.1.2.2.2.2.2.2
/-- a twin is written -/
theorem Rel.tw (H : Rel u mo h S t c s n G N P gm nd gl nl ol kp) (k : Nat) (v : Option Nat) : Rel u mo (s_R h (s + 2) k v) S t c s n G N P gm nd gl nl ol kp := by
  have k13 := H.tws.2.1
  have A : Bx h (s_R h (s + 2) k v) := Bx.rf.R (Or.inr (Or.inr (Or.inl k13)))
  have eR : ∀ a j, t_kd h a ≠ 13 → t_R (s_R h (s + 2) k v) a j = t_R h a j := fun a j ha => by rw [R_sR, if_neg (fun z => ha (by rw [z.1]; exact k13))]
  have eI : ∀ a j, t_I (s_R h (s + 2) k v) a j = t_I h a j := fun a j => by rw [I_sR]
  obtain ⟨h0, h1, ⟨a1, a2, a3, a4, a5, a6⟩, h3, h4, h5, h6⟩ := H
  refine ⟨h0.bx A, h1.bx (eI c 1) (fun a _ => eI (c + 1) a), ⟨a1, by rw [eI]; exact a2, a3, fun i hi => ?_, a5, fun j hj => ?_⟩, ?_, ?_, h5, LDp.R h6⟩
  · have := h0.2.2.2.1.2.2.1.2.1
    rw [eR _ _ (by omega)]; exact a4 i hi
  · obtain ⟨b1, b2⟩ := a6 j hj
    have k3 := b1.k3
    exact ⟨b1.bx A (eI _ _) (eI _ _) (fun k' j' _ _ => eI _ _), b2.bx A k3 (eR _ _ (by omega)) (fun k _ => eI _ _)⟩
  · have k12 := h0.2.2.2.1.2.2.2.2.1
    exact h3.bx A (fun i hi => (a6 i hi).1.k3) (eI c 5) (fun j => eR _ _ (by omega))
  · refine h4.bx A (Nat.le_refl _) (fun g _ => ⟨[], rfl⟩) (fun _ _ => rfl) (fun _ _ _ => rfl) rfl ⟨rfl, rfl⟩ (eI _ _) (fun i _ => ?_) (fun a ha => eI _ _) (fun i k hi _ => eI _ _)
    rw [R_sR, if_neg (fun z => by omega)]
/-- the twin of the parent -/
theorem twinPar_0 (H : Rel u mo h S t c s n G N P gm nd gl nl ol kp) {i : Nat} (hi : i < N) (e : t_R h (nd i) 3 = none) : fX6_twinOfParent h s (some (nd i)) = some none := by
  unfold fX6_twinOfParent fX6_twinOfParent_18
  rw [Option.bind_some, if_pos (H.nm hi).1, if_pos e, if_pos (by decide)]
theorem twinPar_1 (H : Rel u mo h S t c s n G N P gm nd gl nl ol kp) {i pr : Nat} (hi : i < N) (hp : pr < N) (e : t_R h (nd i) 3 = some (nd pr)) : fX6_twinOfParent h s (some (nd i)) = some (t_R h (s + 2) pr) := by
  have h60 := H.N60
  obtain ⟨w0, w13, w60⟩ := H.tws
  unfold fX6_twinOfParent fX6_twinOfParent_18
  rw [Option.bind_some, if_pos (H.nm hi).1, e, if_neg (by simp), Option.bind_some, if_pos (H.nm hp).1, (H.nm hp).2.1, if_neg (nI_pos (by omega)), if_pos H.1.2.2.2.2.1, w0, Option.bind_some, if_pos w13, w60, if_pos (nI_lt (by omega) (by omega)), if_pos (xin_nI (show pr < 60 by omega) (by omega)), clp (show pr < 2 ^ 31 by omega)]
theorem twinOf_0 (H : Rel u mo h S t c s n G N P gm nd gl nl ol kp) {i : Nat} (hi : i < N) (e : t_R h (nd i) 3 = none) (b : Option Nat) : fX6_twinOf h s (some (nd i)) b = some b := by
  unfold fX6_twinOf
  rw [Option.bind_some, if_pos (H.nm hi).1, if_pos e]
theorem twinOf_1 (H : Rel u mo h S t c s n G N P gm nd gl nl ol kp) {i pr : Nat} (hi : i < N) (hp : pr < N) (e : t_R h (nd i) 3 = some (nd pr)) (b : Option Nat) (e2 : t_R h (s + 2) pr = none) : fX6_twinOf h s (some (nd i)) b = some none := by
  unfold fX6_twinOf
  rw [Option.bind_some, if_pos (H.nm hi).1, if_neg (by rw [e]; simp), if_pos H.1.2.2.2.2.1, twinPar_1 H hi hp e, Option.bind_some, e2, if_pos rfl]
theorem twinOf_2 (H : Rel u mo h S t c s n G N P gm nd gl nl ol kp) {i pr pj : Nat} (hi : i < N) (hp : pr < N) (e : t_R h (nd i) 3 = some (nd pr)) (b r : Option Nat) (e2 : t_R h (s + 2) pr = some (nd pj)) (e3 : fX6_childOf h s (some (nd pj)) (m_I S 30 i) = some r) : fX6_twinOf h s (some (nd i)) b = some r := by
  unfold fX6_twinOf
  rw [Option.bind_some, if_pos (H.nm hi).1, if_neg (by rw [e]; simp), if_pos H.1.2.2.2.2.1, twinPar_1 H hi hp e, Option.bind_some, e2, if_neg (by simp), (H.nm hi).2.2.1, e3, Option.bind_some]
/-- what the reference's image of a node is -/
def LIk (S : MS) (f : Nat → Int32) (N a b k : Nat) : Prop := (k = a ∧ f k = nI b) ∨ (k ≠ a ∧ ∃ pr, pr < k ∧ m_I S 28 k = nI pr ∧ m_I S 29 pr = nI a ∧ ((f pr = -1 ∧ f k = -1) ∨ ∃ pj, pj < N ∧ f pr = nI pj ∧ ((∃ j, j < N ∧ f k = nI j ∧ m_I S 28 j = nI pj ∧ m_I S 30 j = m_I S 30 k) ∨ (f k = -1 ∧ ∀ j, j < N → ¬ (m_I S 28 j = nI pj ∧ m_I S 30 j = m_I S 30 k)))))
theorem LIk.cc {S S2 : MS} {f f2 : Nat → Int32} {N a b k : Nat} (H : LIk S f N a b k) (e : m_I S2 28 = m_I S 28 ∧ m_I S2 29 = m_I S 29 ∧ m_I S2 30 = m_I S 30) (ef : ∀ j, j ≤ k → f2 j = f j) : LIk S2 f2 N a b k := by
  unfold LIk
  rw [e.1, e.2.1, e.2.2, ef k (Nat.le_refl _)]
  rcases H with H | ⟨h1, pr, h2, h3, h4, h5⟩
  · exact Or.inl H
  · refine Or.inr ⟨h1, pr, h2, h3, h4, ?_⟩
    rw [ef pr (by omega)]
    exact h5
def TWk (h : TH) (s : Nat) (nd : Nat → Nat) (f : Nat → Int32) (N k : Nat) : Prop := (f k = -1 ∧ t_R h (s + 2) k = none) ∨ ∃ j, j < N ∧ f k = nI j ∧ t_R h (s + 2) k = some (nd j)
/-- how many are missing -/
def cL (S : MS) (f : Nat → Int32) (a i : Nat) : Nat := (List.range i).countP fun k => decide (m_I S 29 k = nI a) && decide (f k = -1)
theorem cL_s {S S2 : MS} {f f2 : Nat → Int32} {a i : Nat} (e : m_I S2 29 = m_I S 29) (ef : ∀ k, k < i → f2 k = f k) : cL S2 f2 a (i + 1) = cL S f a i + (if m_I S 29 i = nI a ∧ f2 i = -1 then 1 else 0) := by
  unfold cL
  rw [List.range_succ, List.countP_append, e]
  congr 1
  · apply List.countP_congr
    intro j hj
    rw [ef j (List.mem_range.mp hj)]
  · by_cases q : m_I S 29 i = nI a ∧ f2 i = -1
    · rw [if_pos q]; simp [q]
    · rw [if_neg q]
      by_cases q1 : m_I S 29 i = nI a
      · have q2 : ¬ f2 i = -1 := fun z => q ⟨q1, z⟩
        simp [q2]
      · simp [q1]
theorem cL_le {S : MS} {f : Nat → Int32} {a i : Nat} : cL S f a i ≤ i := by
  unfold cL
  have := List.countP_le_length (p := fun k => decide (m_I S 29 k = nI a) && decide (f k = -1)) (l := List.range i)
  rw [List.length_range] at this
  exact this
theorem cL_mono {S : MS} {f : Nat → Int32} {a i j : Nat} (h : i ≤ j) : cL S f a i ≤ cL S f a j := by
  obtain ⟨d, rfl⟩ := Nat.le.dest h
  clear h
  induction d with
  | zero => exact Nat.le_refl _
  | succ d ih =>
    rw [← Nat.add_assoc, cL_s (S := S) (f := f) rfl (fun _ _ => rfl)]
    omega
/-- one node of the lesson, in both counts -/
theorem miss_1 (H : Rel u mo h S t c s n G N P gm nd gl nl ol kp) {a b i : Nat} (ha : a < N) (hb : b < N) (h28 : m_I S 28 a = -1) (hi : i < N) (h29 : m_I S 29 i = nI a) (hpre : ∀ k, k < i → m_I S 29 k = nI a → TWk h s nd (m_I S 37) N k) :
    ∃ w T, ((w = -1 ∧ T = none) ∨ ∃ j, j < N ∧ w = nI j ∧ T = some (nd j)) ∧ (∀ f : Nat → Int32, f i = w → (∀ k, k < i → f k = m_I S 37 k) → LIk S f N a b i) ∧
      (∀ fu q, fX9_lacks_5 (fu + 1) S (nI a) (nI b) (nI q) (nI i) = fX9_lacks_5 fu (ms_I S 37 i w) (nI a) (nI b) (nI (q + if w = -1 then 1 else 0)) (nI (i + 1))) ∧
      fX6_twinOf h s (some (nd i)) (some (nd b)) = some T := by
  have h60 := H.N60
  have h36 : m_i S 36 = nI N := H.2.2.2.2.1.2.2.1
  have x60 : xin (nI i) 60 = true := xin_nI (by omega) (by omega)
  have ci := clp (k := i) (show i < 2 ^ 31 by omega)
  have eia : nI i = nI a ↔ i = a := nI_eq (by omega) (by omega)
  have h88 : ∀ (k5 : MS → Int32 → Int32 → Int32 → Int32 → Option (Int32 × MS)) (q : Nat) (w : Int32), fX9_lacks_88 k5 S (nI a) (nI b) (nI q) (nI i) (nI i) w = k5 (ms_I S 37 i w) (nI a) (nI b) (nI (q + if w = -1 then 1 else 0)) (nI (i + 1)) := fun k5 q w => by
    unfold fX9_lacks_88 fX9_lacks_106 fX9_lacks_108
    have e37 : m_I (ms_I S 37 i w) 37 i = w := by rw [mI_I, if_pos ⟨rfl, rfl⟩]
    rw [if_pos x60, if_pos x60, ci, e37, nI_1 i]
    by_cases e : w = -1
    · rw [if_pos e, if_pos e, nI_1 q]
    · rw [if_neg e, if_neg e, Int32.add_zero]; rfl
  obtain ⟨rt, hrt, r29, -, gG, r31, -, -, r34, -, d⟩ := H.node_g hi
  have ert : rt = a := (nI_eq (by omega) (by omega)).mp (r29.symm.trans h29)
  subst ert
  by_cases hia : i = rt
  · subst hia
    have hr3 : t_R h (nd i) 3 = none := by
      rcases d with ⟨-, -, d3, -⟩ | ⟨pr, hp, d2, -⟩
      · exact d3
      · rw [h28] at d2; exact absurd d2.symm (nI_nm1 (by omega))
    refine ⟨nI b, some (nd b), Or.inr ⟨b, hb, rfl, rfl⟩, fun f hf _ => Or.inl ⟨rfl, hf⟩, fun fu q => ?_, twinOf_0 H hi hr3 _⟩
    rw [fX9_lacks_5, h36, if_neg (nI_ge (by omega) (by omega)), if_pos x60, ci, if_pos h29, if_pos rfl]
    unfold fX9_lacks_47
    rw [if_pos rfl]
    exact h88 _ q (nI b)
  · rcases d with ⟨d1, -⟩ | ⟨pr, hp, d2, d3, d4, -, -⟩
    · exact absurd d1.symm hia
    · have hpN : pr < N := by omega
      have xp : xin (nI pr) 60 = true := xin_nI (by omega) (by omega)
      have cp := clp (k := pr) (show pr < 2 ^ 31 by omega)
      have hcommon : ∀ fu q, fX9_lacks_5 (fu + 1) S (nI rt) (nI b) (nI q) (nI i) = fX9_lacks_47 (fX9_lacks_5 fu) S (nI rt) (nI b) (nI q) (nI i) (m_I S 37 pr) := fun fu q => by
        rw [fX9_lacks_5, h36, if_neg (nI_ge (by omega) (by omega)), if_pos x60, ci, if_pos h29, if_neg (fun z => hia (eia.mp z)), d2, if_pos xp, cp]
      rcases hpre pr hp d3 with ⟨f1, f2⟩ | ⟨pj, hpj, f1, f2⟩
      · refine ⟨-1, none, Or.inl ⟨rfl, rfl⟩, fun f hf hfk => Or.inr ⟨hia, pr, hp, d2, d3, Or.inl ⟨by rw [hfk pr hp]; exact f1, hf⟩⟩, fun fu q => ?_, twinOf_1 H hi hpN d4 _ f2⟩
        rw [hcommon]
        unfold fX9_lacks_47
        rw [if_neg (fun z => hia (eia.mp z)), if_pos f1]
        exact h88 _ q (-1)
      · have h47 : ∀ fu q w, fX9_child S (nI pj) (m_I S 30 i) = some w → fX9_lacks_5 (fu + 1) S (nI rt) (nI b) (nI q) (nI i) = fX9_lacks_5 fu (ms_I S 37 i w) (nI rt) (nI b) (nI (q + if w = -1 then 1 else 0)) (nI (i + 1)) := fun fu q w hw => by
          rw [hcommon]
          unfold fX9_lacks_47
          rw [if_neg (fun z => hia (eia.mp z)), f1, if_neg (nI_nm1 (by omega)), if_pos x60, ci, hw, Option.bind_some]
          exact h88 _ q w
        rcases child_ok H hpj (m_I S 30 i) with ⟨k, hk, k28, k30, c1, c2⟩ | ⟨hno, c1, c2⟩
        · exact ⟨nI k, some (nd k), Or.inr ⟨k, hk, rfl, rfl⟩, fun f hf hfk => Or.inr ⟨hia, pr, hp, d2, d3, Or.inr ⟨pj, hpj, by rw [hfk pr hp]; exact f1, Or.inl ⟨k, hk, hf, k28, k30⟩⟩⟩, fun fu q => h47 fu q _ c2, twinOf_2 H hi hpN d4 _ _ f2 c1⟩
        · exact ⟨-1, none, Or.inl ⟨rfl, rfl⟩, fun f hf hfk => Or.inr ⟨hia, pr, hp, d2, d3, Or.inr ⟨pj, hpj, by rw [hfk pr hp]; exact f1, Or.inr ⟨hf, hno⟩⟩⟩, fun fu q => h47 fu q _ c2, twinOf_2 H hi hpN d4 _ _ f2 c1⟩
/-- the class's count at one node -/
theorem cm_row (H : Rel u mo h S t c s n G N P gm nd gl nl ol kp) {i : Nat} (hi : i < 60) (fu : Nat) (a b : Option Nat) (q : Int32) : fX6_countMissing_5 (fu + 1) h s a b q (nI i) = (if (if i < N then some (nd i) else none) = none then fX6_countMissing_5 fu h s a b q (nI (i + 1)) else (if i < N then some (nd i) else none).bind fun p10 => (if t_kd h p10 = 6 then a.bind fun p12 => (if t_kd h p12 = 6 then (if (t_I h p10 1) = (t_I h p12 0) then (fX6_twinOf h s (if i < N then some (nd i) else none) b).bind fun q15 => (if (q15).all (fun b => t_kd h b == 6) = true then (if q15 = none then fX6_countMissing_5 fu (s_R h (s + 2) i q15) s a b (q + 1) (nI (i + 1)) else fX6_countMissing_5 fu (s_R h (s + 2) i q15) s a b (q + 0) (nI (i + 1))) else none) else fX6_countMissing_5 fu h s a b q (nI (i + 1))) else none) else none)) := by
  have hk5 : t_kd h s = 5 := H.1.2.2.2.2.1
  obtain ⟨r0, r13, r60⟩ := H.1.2.2.2.2.2.1
  obtain ⟨w0, w13, w60⟩ := H.tws
  have hrow := H.2.2.2.2.1.2.2.2.1
  have x60 : xin (nI i) 60 = true := xin_nI hi (by omega)
  have ci := clp (k := i) (show i < 2 ^ 31 by omega)
  have es : s ≠ s + 2 := by omega
  have e1 : ∀ q15, t_R (s_R h (s + 2) i q15) s 1 = some (s + 2) := fun q15 => by rw [R_sR, if_neg (fun z => es z.1)]; exact w0
  have e2 : ∀ q15, t_kd (s_R h (s + 2) i q15) (s + 2) = 13 := fun q15 => by rw [kd_sR]; exact w13
  have e3 : ∀ q15, t_ln (s_R h (s + 2) i q15) (s + 2) = 60 := fun q15 => by rw [ln_sR]; exact w60
  have e4 : ∀ q15, t_R (s_R h (s + 2) i q15) (s + 2) i = q15 := fun q15 => by rw [R_sR, if_pos ⟨rfl, rfl⟩]
  rw [fX6_countMissing_5, if_pos hk5, r0, Option.bind_some, if_pos r13, r60, if_neg (nI_ge (by omega) (by omega)), w0, Option.bind_some, if_pos w13, w60, if_neg (nI_ge (by omega) (by omega)), if_pos x60, ci, hrow i hi]
  unfold fX6_countMissing_83 fX6_countMissing_81 fX6_countMissing_83
  simp only [if_pos x60, e1, e2, e3, e4, Option.bind_some, if_true, nI_1]
theorem cm_tail (H : Rel u mo h S t c s n G N P gm nd gl nl ol kp) (a b : Option Nat) (q : Int32) : ∀ (d fu i : Nat), i + d = 60 → N ≤ i → d < fu → fX6_countMissing_5 fu h s a b q (nI i) = some (q, h) := by
  have hk5 : t_kd h s = 5 := H.1.2.2.2.2.1
  obtain ⟨r0, r13, r60⟩ := H.1.2.2.2.2.2.1
  intro d
  induction d with
  | zero =>
    intro fu i hi hN hf
    obtain ⟨fu, rfl⟩ : ∃ j, fu = j + 1 := ⟨fu - 1, by omega⟩
    rw [fX6_countMissing_5, if_pos hk5, r0, Option.bind_some, if_pos r13, r60, if_pos (nI_le (by omega) (by omega))]
  | succ d ih =>
    intro fu i hi hN hf
    obtain ⟨fu, rfl⟩ : ∃ j, fu = j + 1 := ⟨fu - 1, by omega⟩
    rw [cm_row H (by omega), if_neg (show ¬ i < N by omega), if_pos rfl]
    exact ih fu (i + 1) (by omega) (by omega) (by omega)
/-- before node i -/
def J1 (u mo t c s n G N P : Nat) (gm nd : Nat → Nat) (gl nl : Nat → List BW) (ol : List Nat) (kp : Nat → Bool) (a b : Nat) (S : MS) (i : Nat) (h1 : TH) (S1 : MS) : Prop :=
  Rel u mo h1 S1 t c s n G N P gm nd gl nl ol kp ∧ (∀ x, x ≠ 37 → m_I S1 x = m_I S x) ∧ m_i S1 = m_i S ∧ m_J S1 = m_J S ∧ m_j S1 = m_j S ∧ ∀ k, k < i → m_I S 29 k = nI a → LIk S1 (m_I S1 37) N a b k ∧ TWk h1 s nd (m_I S1 37) N k
theorem Sq.w37 {n : Nat} {S : MS} {i : Nat} {v : Int32} : Sq n S (ms_I S 37 i v) := Sq.I (Or.inr rfl)
theorem miss_ok {a b : Nat} (ha : a < N) (hb : b < N) (h28 : m_I S 28 a = -1) : ∀ (d i fu fu6 : Nat) (h1 : TH) (S1 : MS), i + d = N → d < fu → 60 - i < fu6 → J1 u mo t c s n G N P gm nd gl nl ol kp a b S i h1 S1 →
    ∃ h2 S2, J1 u mo t c s n G N P gm nd gl nl ol kp a b S N h2 S2 ∧ fX9_lacks_5 fu S1 (nI a) (nI b) (nI (cL S (m_I S1 37) a i)) (nI i) = some (nI (cL S (m_I S2 37) a N), S2) ∧
      fX6_countMissing_5 fu6 h1 s (some (nd a)) (some (nd b)) (nI (cL S (m_I S1 37) a i)) (nI i) = some (nI (cL S (m_I S2 37) a N), h2) := by
  intro d
  induction d with
  | zero =>
    intro i fu fu6 h1 S1 hi hf hf6 HI
    have H := HI.1
    have h60 := H.N60
    obtain ⟨fu, rfl⟩ : ∃ j, fu = j + 1 := ⟨fu - 1, by omega⟩
    have hiN : i = N := by omega
    subst hiN
    refine ⟨h1, S1, HI, ?_, cm_tail H _ _ _ (60 - i) fu6 i (by omega) (Nat.le_refl _) hf6⟩
    rw [fX9_lacks_5, H.2.2.2.2.1.2.2.1, if_pos (nI_le (Nat.le_refl _) (by omega))]
  | succ d ih =>
    intro i fu fu6 h1 S1 hi hf hf6 HI
    obtain ⟨H, eX, ei, eJ, ej, hk⟩ := id HI
    have h60 := H.N60
    have hiN : i < N := by omega
    obtain ⟨fu, rfl⟩ : ∃ j, fu = j + 1 := ⟨fu - 1, by omega⟩
    obtain ⟨fu6, rfl⟩ : ∃ j, fu6 = j + 1 := ⟨fu6 - 1, by omega⟩
    have n1 := H.nm hiN
    have na := H.nm ha
    obtain ⟨rt, hrt, r29, r1, -⟩ := H.node_g hiN
    have r29' : m_I S 29 i = nI rt := by rw [← eX 29 (by omega)]; exact r29
    rw [cm_row H (by omega), if_pos hiN, if_neg (by simp), Option.bind_some, if_pos n1.1, Option.bind_some, if_pos na.1, na.2.1, r1]
    by_cases hs : nI rt = nI a
    · have h29 : m_I S1 29 i = nI a := r29.trans hs
      obtain ⟨w, T, hwT, hLI, h9, h6⟩ := miss_1 H ha hb (by rw [eX 28 (by omega)]; exact h28) hiN h29 (fun k hki hk29 => (hk k hki (by rw [← eX 29 (by omega)]; exact hk29)).2)
      have e37 : ∀ k, k ≠ i → m_I (ms_I S1 37 i w) 37 k = m_I S1 37 k := fun k hki => by rw [mI_I, if_neg (fun z => hki z.2)]
      have e37i : m_I (ms_I S1 37 i w) 37 i = w := by rw [mI_I, if_pos ⟨rfl, rfl⟩]
      have eXs : ∀ x, x ≠ 37 → m_I (ms_I S1 37 i w) x = m_I S1 x := fun x hx => by funext j; rw [mI_I, if_neg (fun z => hx z.1)]
      have hcl : cL S (m_I (ms_I S1 37 i w) 37) a (i + 1) = cL S (m_I S1 37) a i + (if w = -1 then 1 else 0) := by
        rw [cL_s (S := S) (f := m_I S1 37) rfl (fun k hki => e37 k (by omega)), e37i]
        congr 1
        by_cases e : w = -1
        · rw [if_pos ⟨r29'.trans hs, e⟩, if_pos e]
        · rw [if_neg (fun z => e z.2), if_neg e]
      have HI2 : J1 u mo t c s n G N P gm nd gl nl ol kp a b S (i + 1) (s_R h1 (s + 2) i T) (ms_I S1 37 i w) := by
        refine ⟨(H.tw i T).sq Sq.w37, fun x hx => (eXs x hx).trans (eX x hx), ei, eJ, ej, fun k hki hk29 => ?_⟩
        by_cases e : k = i
        · subst e
          refine ⟨(hLI (m_I (ms_I S1 37 k w) 37) e37i (fun k' hk' => e37 k' (by omega))).cc ⟨eXs 28 (by omega), eXs 29 (by omega), eXs 30 (by omega)⟩ (fun _ _ => rfl), ?_⟩
          unfold TWk
          rw [e37i, R_sR, if_pos ⟨rfl, rfl⟩]
          exact hwT
        · obtain ⟨g1, g2⟩ := hk k (by omega) hk29
          refine ⟨g1.cc ⟨eXs 28 (by omega), eXs 29 (by omega), eXs 30 (by omega)⟩ (fun j hj => e37 j (by omega)), ?_⟩
          unfold TWk
          rw [e37 k e, R_sR, if_neg (fun z => e z.2)]
          exact g2
      obtain ⟨h2, S2, i1, i2, i3⟩ := ih (i + 1) fu fu6 _ _ (by omega) (by omega) (by omega) HI2
      rw [hcl] at i2 i3
      refine ⟨h2, S2, i1, by rw [h9]; exact i2, ?_⟩
      have hall : T.all (fun b => t_kd h1 b == 6) = true := by
        rcases hwT with ⟨-, e⟩ | ⟨j, hj, -, e⟩
        · rw [e]; rfl
        · rw [e]; simp [(H.nm hj).1]
      rw [if_pos hs, h6, Option.bind_some, if_pos hall]
      rcases hwT with ⟨e1, e2⟩ | ⟨j, hj, e1, e2⟩
      · rw [if_pos e2, nI_1]
        rw [if_pos e1] at i3
        exact i3
      · rw [if_neg (by rw [e2]; simp), Int32.add_zero]
        rw [if_neg (by rw [e1]; exact nI_nm1 (by omega))] at i3
        exact i3
    · have h29 : ¬ m_I S1 29 i = nI a := fun z => hs (r29.symm.trans z)
      have h29' : ¬ m_I S 29 i = nI a := fun z => hs (r29'.symm.trans z)
      have hcl : cL S (m_I S1 37) a (i + 1) = cL S (m_I S1 37) a i := by
        rw [cL_s (S := S) (f := m_I S1 37) rfl (fun _ _ => rfl), if_neg (fun z => h29' z.1)]
        rfl
      have HI2 : J1 u mo t c s n G N P gm nd gl nl ol kp a b S (i + 1) h1 S1 := ⟨H, eX, ei, eJ, ej, fun k hki hk29 => by
        by_cases e : k = i
        · subst e; exact absurd hk29 h29'
        · exact hk k (by omega) hk29⟩
      obtain ⟨h2, S2, i1, i2, i3⟩ := ih (i + 1) fu fu6 _ _ (by omega) (by omega) (by omega) HI2
      rw [hcl] at i2 i3
      refine ⟨h2, S2, i1, ?_, by rw [if_neg hs]; exact i3⟩
      rw [fX9_lacks_5, H.2.2.2.2.1.2.2.1, if_neg (nI_ge (by omega) (by omega)), if_pos (xin_nI (show i < 60 by omega) (by omega)), clp (show i < 2 ^ 31 by omega), if_neg h29]
      unfold fX9_lacks_108
      rw [nI_1]
      exact i2
end MERGE1
/-! PURE 41: merge: the marks. -/
section MERGE2
variable {u mo : Nat} {t c s n G N P : Nat} {gm nd : Nat → Nat} {gl nl : Nat → List BW} {ol : List Nat} {kp : Nat → Bool}
theorem marks_4 {i j : Nat} (hi : i < N) (hj : j < N) (A B : Int32) : ∀ (d k fu fu9 : Nat) (h : TH) (S : MS), k + d = 4 → d < fu → d < fu9 → Rel u mo h S t c s n G N P gm nd gl nl ol kp → m_I S 37 i = nI j →
    ∃ h2 S2, Rel u mo h2 S2 t c s n G N P gm nd gl nl ol kp ∧ fX7_takeMarks_2 fu h (nd j) (some (nd i)) (nI k) = some h2 ∧ (∀ k140 : MS → Int32 → Int32 → Int32 → Option (Int32 × MS), fX9_merge_223 k140 fu9 S A B (nI i) (nI k) = k140 S2 A B (nI (i + 1))) ∧ (∀ a, a ≠ 36 → m_I S2 a = m_I S a) ∧ m_i S2 = m_i S ∧ m_J S2 = m_J S ∧ (∀ a b, t_R h2 a b = t_R h a b) ∧ ∀ a, t_kd h2 a = t_kd h a := by
  intro d
  induction d with
  | zero =>
    intro k fu fu9 h S hk hf hf9 H h37
    obtain ⟨fu, rfl⟩ : ∃ j, fu = j + 1 := ⟨fu - 1, by omega⟩
    obtain ⟨fu9, rfl⟩ : ∃ j, fu9 = j + 1 := ⟨fu9 - 1, by omega⟩
    have nj := H.nm hj
    have k4 : k = 4 := by omega
    subst k4
    refine ⟨h, S, H, ?_, fun k140 => ?_, fun _ _ => rfl, rfl, rfl, fun _ _ => rfl, fun _ => rfl⟩
    · rw [fX7_takeMarks_2, if_pos nj.1, nj.2.2.2.2.1.1, Option.bind_some, if_pos nj.2.2.2.2.1.2.1, nj.2.2.2.2.1.2.2.1, if_pos (nI_le (Nat.le_refl _) (by omega))]
    · rw [fX9_merge_223, if_pos (show (4 : Int32) ≤ nI 4 from nI_le (a := 4) (Nat.le_refl _) (by omega))]
      unfold fX9_merge_288
      rw [nI_1]
  | succ d ih =>
    intro k fu fu9 h S hk hf hf9 H h37
    obtain ⟨fu, rfl⟩ : ∃ j, fu = j + 1 := ⟨fu - 1, by omega⟩
    obtain ⟨fu9, rfl⟩ : ∃ j, fu9 = j + 1 := ⟨fu9 - 1, by omega⟩
    have h60 := H.N60
    obtain ⟨j1, -, -, -, ⟨j2, j3, j4, j5⟩, -⟩ := H.nm hj
    obtain ⟨i1, -, -, -, ⟨i2, i3, i4, i5⟩, -⟩ := H.nm hi
    have x4 : xin (nI k) 4 = true := xin_nI (by omega) (by omega)
    have ck := clp (k := k) (show k < 2 ^ 31 by omega)
    have xj : xin (nI (4 * j + k)) 240 = true := xin_nI (by omega) (by omega)
    have xi : xin (nI (4 * i + k)) 240 = true := xin_nI (by omega) (by omega)
    have cj := clp (k := 4 * j + k) (by omega)
    have ci := clp (k := 4 * i + k) (by omega)
    have ej5 := j5 k (by omega)
    have ei5 := i5 k (by omega)
    have h7 : fX7_takeMarks_2 (fu + 1) h (nd j) (some (nd i)) (nI k) = (if m_I S 36 (4 * j + k) = 0 then fX7_takeMarks_2 fu (s_I h (nd j + 1) k (m_I S 36 (4 * i + k))) (nd j) (some (nd i)) (nI (k + 1)) else fX7_takeMarks_2 fu h (nd j) (some (nd i)) (nI (k + 1))) := by
      rw [fX7_takeMarks_2, if_pos j1, j2, Option.bind_some, if_pos j3, j4, if_neg (nI_ge (by omega) (by omega)), Option.bind_some, if_pos i1, i2, Option.bind_some, if_pos i3, i4, if_neg (nI_ge (by omega) (by omega)), if_pos x4, ck, if_pos x4, if_pos x4, ej5, ei5]
      unfold fX7_takeMarks_41
      rw [nI_1]
    have h9 : ∀ k140 : MS → Int32 → Int32 → Int32 → Option (Int32 × MS), fX9_merge_223 k140 (fu9 + 1) S A B (nI i) (nI k) = fX9_merge_223 k140 fu9 (ms_I S 36 (4 * j + k) (if m_I S 36 (4 * j + k) = 0 then m_I S 36 (4 * i + k) else m_I S 36 (4 * j + k))) A B (nI i) (nI (k + 1)) := fun k140 => by
      rw [fX9_merge_223, if_neg (show ¬ (4 : Int32) ≤ nI k from nI_ge (b := 4) (by omega) (by omega)), if_pos (xin_nI (show i < 60 by omega) (by omega)), clp (show i < 2 ^ 31 by omega), h37, i32_4, pk_mul, pk_mul, nI_add, nI_add, if_pos xj, cj, if_pos xi, ci]
      unfold fX9_merge_281
      rw [if_pos xj, if_pos xj, cj, nI_1]
      by_cases e : m_I S 36 (4 * j + k) = 0
      · rw [if_pos e, if_pos e]
      · rw [if_neg e, if_neg e]
    rw [h7]
    by_cases e : m_I S 36 (4 * j + k) = 0
    · rw [if_pos e]
      rw [if_pos e] at h9
      have H2 := H.mrk hj (show k < 4 by omega) (m_I S 36 (4 * i + k)) (S2 := ms_I S 36 (4 * j + k) (m_I S 36 (4 * i + k))) rfl rfl (fun a ha => by funext j'; rw [mI_I, if_neg (fun z => ha z.1)]) (fun j' => by
        rw [mI_I]
        by_cases q : j' = 4 * j + k
        · rw [if_pos ⟨rfl, q⟩, if_pos q]
        · rw [if_neg (fun z => q z.2), if_neg q])
      obtain ⟨h2, S2, a1, a2, a3, a4, a5, a6, a7, a8⟩ := ih (k + 1) fu fu9 _ _ (by omega) (by omega) (by omega) H2 (by rw [mI_I, if_neg (by omega)]; exact h37)
      exact ⟨h2, S2, a1, a2, fun k140 => (h9 k140).trans (a3 k140), fun a ha => (a4 a ha).trans (by funext j'; rw [mI_I, if_neg (fun z => ha z.1)]), a5, a6, fun a b => (a7 a b).trans (by rw [R_sI]), fun a => (a8 a).trans (by rw [kd_sI])⟩
    · rw [if_neg e]
      rw [if_neg e] at h9
      have hsq : Sq n S (ms_I S 36 (4 * j + k) (m_I S 36 (4 * j + k))) := by
        have e1 : ∀ a, m_I (ms_I S 36 (4 * j + k) (m_I S 36 (4 * j + k))) a = m_I S a := fun a => by
          funext j'
          rw [mI_I]
          by_cases q : a = 36 ∧ j' = 4 * j + k
          · rw [if_pos q, q.1, q.2]
          · rw [if_neg q]
        exact ⟨fun _ _ _ _ => rfl, fun a _ _ _ _ => e1 a, fun a _ => ⟨by rw [e1], by rw [e1]⟩, fun _ _ => rfl⟩
      obtain ⟨h2, S2, a1, a2, a3, a4, a5, a6, a7, a8⟩ := ih (k + 1) fu fu9 _ _ (by omega) (by omega) (by omega) (H.sq hsq) (by rw [mI_I, if_neg (by omega)]; exact h37)
      exact ⟨h2, S2, a1, a2, fun k140 => (h9 k140).trans (a3 k140), fun a ha => (a4 a ha).trans (by funext j'; rw [mI_I, if_neg (fun z => ha z.1)]), a5, a6, a7, a8⟩
end MERGE2
/-! PURE 42: merge: nodes are taken over. -/
/-- node k of the lesson is taken as node j -/
def ImK (S S' : MS) (a b N N' : Nat) (nl nl' : Nat → List BW) (f0 : Nat → Int32) (k j : Nat) : Prop :=
  j < N' ∧ m_I S' 37 k = nI j ∧ (f0 k = -1 → N ≤ j) ∧ (f0 k ≠ -1 → f0 k = nI j ∧ j < N) ∧ nl' j = nl k ∧ m_I S' 29 j = nI b ∧ ((k = a ∧ j = b) ∨ (k ≠ a ∧ ∃ pr pj, pr < k ∧ m_I S 28 k = nI pr ∧ m_I S 29 pr = nI a ∧ pj < N' ∧ m_I S' 37 pr = nI pj ∧ m_I S' 28 j = nI pj ∧ m_I S' 30 j = m_I S 30 k))
theorem ImK.up {S S' S1 : MS} {a b N N' N1 : Nat} {nl nl' nl1 : Nat → List BW} {f0 : Nat → Int32} {k j : Nat} (H : ImK S S' a b N N' nl nl' f0 k j) (hN : N' ≤ N1) (eX : ∀ x j, (x = 28 ∨ x = 29 ∨ x = 30) → j < N' → m_I S1 x j = m_I S' x j) (e37 : ∀ j, j ≤ k → m_I S1 37 j = m_I S' 37 j) (enl : ∀ j, j < N' → nl1 j = nl' j) : ImK S S1 a b N N1 nl nl1 f0 k j := by
  obtain ⟨h1, h2, h3, h4, h5, h6, h7⟩ := H
  refine ⟨by omega, by rw [e37 k (Nat.le_refl _)]; exact h2, h3, h4, by rw [enl j h1]; exact h5, by rw [eX 29 j (by omega) h1]; exact h6, ?_⟩
  rcases h7 with h7 | ⟨h7, pr, pj, p1, p2, p3, p4, p5, p6, p7⟩
  · exact Or.inl h7
  · exact Or.inr ⟨h7, pr, pj, p1, p2, p3, by omega, by rw [e37 pr (by omega)]; exact p5, by rw [eX 28 j (by omega) h1]; exact p6, by rw [eX 30 j (by omega) h1]; exact p7⟩
section MERGE3
variable {u mo t c s n G N P : Nat} {gm nd : Nat → Nat} {gl nl : Nat → List BW} {ol : List Nat} {kp : Nat → Bool} {S : MS} {a b : Nat} {f0 : Nat → Int32}
/-- before node i -/
def J2 (u mo t c s n G N P : Nat) (gm nd : Nat → Nat) (gl nl : Nat → List BW) (ol : List Nat) (kp : Nat → Bool) (S : MS) (a b : Nat) (f0 : Nat → Int32) (i N' : Nat) (h' : TH) (S' : MS) (nd' : Nat → Nat) (nl' : Nat → List BW) : Prop :=
  Rel u mo h' S' t c s n G N' P gm nd' gl nl' ol kp ∧ N' = N + cL S f0 a i ∧ (∀ k, k < N → nd' k = nd k ∧ nl' k = nl k ∧ (∀ x, 28 ≤ x → x ≤ 33 → m_I S' x k = m_I S x k) ∧ m_J S' 34 k = m_J S 34 k ∧ m_J S' 35 k = m_J S 35 k) ∧ m_i S' 47 = 0 ∧
  (∀ k, i ≤ k → k < N → m_I S' 37 k = f0 k) ∧ (∀ k, k < i → m_I S 29 k = nI a → ∃ j, ImK S S' a b N N' nl nl' f0 k j ∧ t_R h' (s + 2) k = some (nd' j)) ∧ (∀ j, N ≤ j → j < N' → ∃ k, k < i ∧ m_I S 29 k = nI a ∧ m_I S' 37 k = nI j)
/-- what holds of the two lessons throughout -/
def Bs (S : MS) (nl : Nat → List BW) (N a b : Nat) (f0 : Nat → Int32) : Prop := a < N ∧ b < N ∧ a ≠ b ∧ m_I S 28 a = -1 ∧ m_I S 28 b = -1 ∧ m_I S 29 a = nI a ∧ m_I S 29 b = nI b ∧ m_I S 31 a = m_I S 31 b ∧ nl a = nl b ∧
  (∀ k, k < N → m_I S 29 k = nI a → LIk S f0 N a b k) ∧ (∀ i j, i < N → j < N → m_I S 28 i ≠ -1 → m_I S 28 i = m_I S 28 j → m_I S 30 i = m_I S 30 j → i = j)
theorem im_inj {S' : MS} {N' : Nat} {nl' : Nat → List BW} {h' : TH} {nd' : Nat → Nat} {i : Nat} (B : Bs S nl N a b f0) (h60 : N' ≤ 60) (hiN : i ≤ N) (hNN : N ≤ N') (eb : m_I S' 28 b = -1) (H : ∀ k, k < i → m_I S 29 k = nI a → ∃ j, ImK S S' a b N N' nl nl' f0 k j ∧ t_R h' (s + 2) k = some (nd' j)) :
    ∀ k k2 j, k < i → k2 < i → m_I S 29 k = nI a → m_I S 29 k2 = nI a → m_I S' 37 k = nI j → m_I S' 37 k2 = nI j → j < N' → k = k2 := by
  intro k
  induction k using Nat.strongRecOn with
  | ind k ih =>
    intro k2 j hk hk2 s1 s2 f1 f2 hj
    obtain ⟨-, -, -, -, b5, -, -, -, -, -, b10⟩ := B
    obtain ⟨j1, ⟨p1, p2, -, -, -, -, p7⟩, -⟩ := H k hk s1
    obtain ⟨j2, ⟨q1, q2, -, -, -, -, q7⟩, -⟩ := H k2 hk2 s2
    have e1 : j1 = j := (nI_eq (by omega) (by omega)).mp (p2.symm.trans f1)
    have e2 : j2 = j := (nI_eq (by omega) (by omega)).mp (q2.symm.trans f2)
    subst e1
    subst e2
    rcases p7 with ⟨p8, p9⟩ | ⟨p8, pr, pj, r1, r2, r3, r4, r5, r6, r7⟩
    · rcases q7 with ⟨q8, q9⟩ | ⟨q8, pr, pj, r1, r2, r3, r4, r5, r6, r7⟩
      · rw [p8, q8]
      · rw [p9, eb] at r6
        exact absurd r6.symm (nI_nm1 (by omega))
    · rcases q7 with ⟨q8, q9⟩ | ⟨q8, pr2, pj2, t1, t2, t3, t4, t5, t6, t7⟩
      · rw [q9, eb] at r6
        exact absurd r6.symm (nI_nm1 (by omega))
      · have epj : pj = pj2 := (nI_eq (by omega) (by omega)).mp (r6.symm.trans t6)
        subst epj
        have epr := ih pr r1 pr2 pj (by omega) (by omega) r3 t3 r5 t5 r4
        subst epr
        exact b10 k k2 (by omega) (by omega) (by rw [r2]; exact nI_nm1 (by omega)) (r2.trans t2.symm) (r7.symm.trans t7)
/-- an image is at hand: twins and marks are written -/
theorem take_1 {S1 : MS} {N1 : Nat} {h1 : TH} {nd1 : Nat → Nat} {nl1 : Nat → List BW} {i j : Nat} (B : Bs S nl N a b f0) (hi : i < N) (h29 : m_I S 29 i = nI a) (R : Rel u mo h1 S1 t c s n G N1 P gm nd1 gl nl1 ol kp) (e1 : N1 = N + cL S f0 a (i + 1))
    (eold : ∀ k, k < N → nd1 k = nd k ∧ nl1 k = nl k ∧ (∀ x, 28 ≤ x → x ≤ 33 → m_I S1 x k = m_I S x k) ∧ m_J S1 34 k = m_J S 34 k ∧ m_J S1 35 k = m_J S 35 k) (e47 : m_i S1 47 = 0) (ef : ∀ k, i < k → k < N → m_I S1 37 k = f0 k)
    (epre : ∀ k, k < i → m_I S 29 k = nI a → ∃ j, ImK S S1 a b N N1 nl nl1 f0 k j ∧ t_R h1 (s + 2) k = some (nd1 j)) (eim : ImK S S1 a b N N1 nl nl1 f0 i j) (enew : ∀ j, N ≤ j → j < N1 → ∃ k, k < i + 1 ∧ m_I S 29 k = nI a ∧ m_I S1 37 k = nI j) (A C : Int32) :
    ∃ h2 S2, J2 u mo t c s n G N P gm nd gl nl ol kp S a b f0 (i + 1) N1 h2 S2 nd1 nl1 ∧ fX7_takeMarks (s_R h1 (s + 2) i (some (nd1 j))) (nd1 j) (some (nd1 i)) = some h2 ∧ ∀ k140 : MS → Int32 → Int32 → Int32 → Option (Int32 × MS), fX9_merge_220 k140 S1 A C (nI i) = k140 S2 A C (nI (i + 1)) := by
  obtain ⟨m1, m2, -⟩ := id eim
  have R2 := R.tw i (some (nd1 j))
  obtain ⟨h2, S2, a1, a2, a3, a4, a5, a6, a7, a8⟩ := marks_4 (A := A) (B := C) (show i < N1 by omega) m1 4 0 FU FU _ _ (by omega) (by unfold FU; omega) (by unfold FU; omega) R2 m2
  refine ⟨h2, S2, ⟨a1, e1, fun k hk => ?_, by rw [a5]; exact e47, fun k hk hkN => by rw [a4 37 (by omega)]; exact ef k (by omega) hkN, fun k hk hk29 => ?_, fun j' b1 b2 => by rw [a4 37 (by omega)]; exact enew j' b1 b2⟩, a2, a3⟩
  · obtain ⟨o1, o2, o3, o4, o5⟩ := eold k hk
    exact ⟨o1, o2, fun x x1 x2 => by rw [a4 x (by omega)]; exact o3 x x1 x2, by rw [a6]; exact o4, by rw [a6]; exact o5⟩
  · by_cases e : k = i
    · subst e
      refine ⟨j, eim.up (Nat.le_refl _) (fun x j' hx _ => by rw [a4 x (by omega)]) (fun j' _ => by rw [a4 37 (by omega)]) (fun _ _ => rfl), ?_⟩
      rw [a7, R_sR, if_pos ⟨rfl, rfl⟩]
    · obtain ⟨j', g1, g2⟩ := epre k (by omega) hk29
      refine ⟨j', g1.up (Nat.le_refl _) (fun x j' hx _ => by rw [a4 x (by omega)]) (fun j' _ => by rw [a4 37 (by omega)]) (fun _ _ => rfl), ?_⟩
      rw [a7, R_sR, if_neg (fun z => e z.2)]
      exact g2
end MERGE3
/-! PURE 43: merge: the loop. -/
section MERGE4
variable {u mo : Nat} {h : TH} {S : MS} {t c s n G N P : Nat} {gm nd : Nat → Nat} {gl nl : Nat → List BW} {ol : List Nat} {kp : Nat → Bool} {a b : Nat} {f0 : Nat → Int32}
theorem gr_skip (H : Rel u mo h S t c s n G N P gm nd gl nl ol kp) {i : Nat} (hi : i < 60) (ha : a < N) (hs : i < N → ¬ m_I S 29 i = nI a) (fu : Nat) (bb : Option Nat) (q : Int32) : fX6_graft_26 (fu + 1) h s (some (nd a)) bb q (nI i) = fX6_graft_26 fu h s (some (nd a)) bb q (nI (i + 1)) := by
  have hk5 : t_kd h s = 5 := H.1.2.2.2.2.1
  obtain ⟨r0, r13, r60⟩ := H.1.2.2.2.2.2.1
  obtain ⟨w0, w13, w60⟩ := H.tws
  have hrow := H.2.2.2.2.1.2.2.2.1
  have na := H.nm ha
  rw [fX6_graft_26, if_pos hk5, r0, Option.bind_some, if_pos r13, r60, if_neg (nI_ge (by omega) (by omega)), w0, Option.bind_some, if_pos w13, w60, if_neg (nI_ge (by omega) (by omega)), if_pos (xin_nI hi (by omega)), clp (show i < 2 ^ 31 by omega), hrow i hi]
  unfold fX6_graft_102
  rw [nI_1]
  by_cases hiN : i < N
  · obtain ⟨rt, hrt, r29, r1, -⟩ := H.node_g hiN
    rw [if_pos hiN, if_neg (by simp), Option.bind_some, if_pos (H.nm hiN).1, Option.bind_some, if_pos na.1, na.2.1, r1, if_neg (fun z => hs hiN (r29.trans z))]
  · rw [if_neg hiN, if_pos rfl]
theorem gr_tail (H : Rel u mo h S t c s n G N P gm nd gl nl ol kp) (ha : a < N) (bb : Option Nat) (q : Int32) : ∀ (d fu i : Nat), i + d = 60 → (∀ k, i ≤ k → k < N → ¬ m_I S 29 k = nI a) → d < fu → fX6_graft_26 fu h s (some (nd a)) bb q (nI i) = some (q, h) := by
  have hk5 : t_kd h s = 5 := H.1.2.2.2.2.1
  obtain ⟨r0, r13, r60⟩ := H.1.2.2.2.2.2.1
  intro d
  induction d with
  | zero =>
    intro fu i hi hN hf
    obtain ⟨fu, rfl⟩ : ∃ j, fu = j + 1 := ⟨fu - 1, by omega⟩
    rw [fX6_graft_26, if_pos hk5, r0, Option.bind_some, if_pos r13, r60, if_pos (nI_le (by omega) (by omega))]
  | succ d ih =>
    intro fu i hi hN hf
    obtain ⟨fu, rfl⟩ : ∃ j, fu = j + 1 := ⟨fu - 1, by omega⟩
    rw [gr_skip H (by omega) ha (hN i (Nat.le_refl _))]
    exact ih fu (i + 1) (by omega) (fun k hk => hN k (by omega)) (by omega)
theorem gr_take (H : Rel u mo h S t c s n G N P gm nd gl nl ol kp) {i : Nat} (hi : i < N) (ha : a < N) (h29 : m_I S 29 i = nI a) (bb : Option Nat) (q : Int32) {z N1 : Nat} {h1 h2 : TH} {S1 : MS} {nd1 : Nat → Nat} {nl1 : Nat → List BW} (H1 : Rel u mo h1 S1 t c s n G N1 P gm nd1 gl nl1 ol kp) (e : fX6_twinOrNew h s (some (nd i)) bb = some (some z, h1)) (hz : t_kd h1 z = 6) (e2 : fX7_takeMarks (s_R h1 (s + 2) i (some z)) z (some (nd i)) = some h2) (fu : Nat) :
    fX6_graft_26 (fu + 1) h s (some (nd a)) bb q (nI i) = fX6_graft_26 fu h2 s (some (nd a)) bb q (nI (i + 1)) := by
  have h60 := H.N60
  have hk5 : t_kd h s = 5 := H.1.2.2.2.2.1
  obtain ⟨r0, r13, r60⟩ := H.1.2.2.2.2.2.1
  obtain ⟨w0, w13, w60⟩ := H.tws
  obtain ⟨v0, v13, v60⟩ := H1.tws
  have hk51 : t_kd h1 s = 5 := H1.1.2.2.2.2.1
  have hrow := H.2.2.2.2.1.2.2.2.1
  have na := H.nm ha
  obtain ⟨rt, hrt, r29, r1, -⟩ := H.node_g hi
  have x60 : xin (nI i) 60 = true := xin_nI (by omega) (by omega)
  have hall : (some z).all (fun b => t_kd h1 b == 6) = true := by simp [hz]
  rw [fX6_graft_26, if_pos hk5, r0, Option.bind_some, if_pos r13, r60, if_neg (nI_ge (by omega) (by omega)), w0, Option.bind_some, if_pos w13, w60, if_neg (nI_ge (by omega) (by omega)), if_pos x60, clp (show i < 2 ^ 31 by omega), hrow i (by omega), if_pos hi, if_neg (by simp), Option.bind_some, if_pos (H.nm hi).1, Option.bind_some, if_pos na.1, na.2.1, r1, if_pos (r29.symm.trans h29), e, Option.bind_some]
  dsimp only
  rw [if_pos hk51, v0, Option.bind_some, if_pos v13, v60, if_pos x60, if_pos hall, if_neg (by simp), Option.bind_some, kd_sR, if_pos hz, e2, Option.bind_some]
  unfold fX6_graft_102
  rw [nI_1]
theorem tn_old (H : Rel u mo h S t c s n G N P gm nd gl nl ol kp) {i z : Nat} (hi : i < N) {bb : Option Nat} (e : fX6_twinOf h s (some (nd i)) bb = some (some z)) : fX6_twinOrNew h s (some (nd i)) bb = some (some z, h) := by
  obtain ⟨rt, hrt, -, -, -, -, -, -, -, -, d⟩ := H.node_g hi
  have hp : ∃ r, fX6_twinOfParent h s (some (nd i)) = some r := by
    rcases d with ⟨-, -, d3, -⟩ | ⟨pr, hp, -, -, d4, -⟩
    · exact ⟨_, twinPar_0 H hi d3⟩
    · exact ⟨_, twinPar_1 H hi (by omega) d4⟩
  obtain ⟨r, hr⟩ := hp
  unfold fX6_twinOrNew
  rw [if_pos H.1.2.2.2.2.1, e, Option.bind_some, hr, Option.bind_some, if_neg (by simp)]
theorem tn_new (H : Rel u mo h S t c s n G N P gm nd gl nl ol kp) {i z pr pj : Nat} (hi : i < N) (hp : pr < N) (e3 : t_R h (nd i) 3 = some (nd pr)) {bb : Option Nat} (e : fX6_twinOf h s (some (nd i)) bb = some none) (e2 : t_R h (s + 2) pr = some (nd pj)) {q : Nat} (hq : t_R h (nd i) 5 = some q) {h1 : TH} (hg : fX6_grow h s (some (nd pj)) (m_I S 30 i) (some q) = some (some z, h1)) : fX6_twinOrNew h s (some (nd i)) bb = some (some z, h1) := by
  unfold fX6_twinOrNew
  rw [if_pos H.1.2.2.2.2.1, e, Option.bind_some, twinPar_1 H hi hp e3, Option.bind_some, if_pos rfl, e2, if_neg (by simp), Option.bind_some, if_pos (H.nm hi).1, (H.nm hi).2.2.1, hq, hg, Option.bind_some]
/-- equal lists of boards: equal boards -/
theorem nl_eq (H : Rel u mo h S t c s n G N P gm nd gl nl ol kp) {i j : Nat} (hi : i < N) (hj : j < N) (e : nl i = nl j) (eg : gOf S i = gOf S j) : (m_J S 34 i, m_J S 35 i) = (m_J S 34 j, m_J S 35 j) ∧ m_I S 33 i = m_I S 33 j := by
  obtain ⟨-, -, -, -, -, -, -, -, a34, a33, -⟩ := H.node_g hi
  obtain ⟨-, -, -, -, -, -, -, -, b34, b33, -⟩ := H.node_g hj
  rw [e] at a34 a33
  rw [eg] at a33
  exact ⟨Option.some.inj (a34.symm.trans b34), a33.trans b33.symm⟩
/-- one node of the lesson is taken over -/
theorem take_step (B : Bs S nl N a b f0) {i N' : Nat} {h' : TH} {S' : MS} {nd' : Nat → Nat} {nl' : Nat → List BW} (hI : J2 u mo t c s n G N P gm nd gl nl ol kp S a b f0 i N' h' S' nd' nl') (hi : i < N) (hM : N + cL S f0 a N ≤ 60) (q : Int32) :
    ∃ N2 h2 S2 nd2 nl2, J2 u mo t c s n G N P gm nd gl nl ol kp S a b f0 (i + 1) N2 h2 S2 nd2 nl2 ∧ (∀ fu, fX9_merge_140 (fu + 1) S' (nI a) (nI N) (nI i) = fX9_merge_140 fu S2 (nI a) (nI N) (nI (i + 1))) ∧
      ∀ fu, fX6_graft_26 (fu + 1) h' s (some (nd a)) (some (nd b)) q (nI i) = fX6_graft_26 fu h2 s (some (nd a)) (some (nd b)) q (nI (i + 1)) := by
  obtain ⟨R, hN', hold, h47, hf, hpre, hnew⟩ := id hI
  obtain ⟨b1, b2, b3, b4, b5, b6, b7, b8, b9, b10, b11⟩ := id B
  have h60 := R.N60
  have hNN : N ≤ N' := by omega
  have hiN : i < N' := by omega
  obtain ⟨oi1, oi2, oi3, oi4, oi5⟩ := hold i hi
  obtain ⟨oa1, oa2, oa3, -, -⟩ := hold a b1
  obtain ⟨ob1, ob2, ob3, -, -⟩ := hold b b2
  have x60 : xin (nI i) 60 = true := xin_nI (by omega) (by omega)
  have ci := clp (k := i) (show i < 2 ^ 31 by omega)
  have h29i : m_I S' 29 i = m_I S 29 i := oi3 29 (by omega) (by omega)
  have hmono : cL S f0 a (i + 1) ≤ cL S f0 a N := cL_mono (by omega)
  have hcs := cL_s (S := S) (S2 := S) (f := f0) (f2 := f0) (a := a) (i := i) rfl (fun _ _ => rfl)
  rw [← oa1, ← ob1]
  by_cases hs : m_I S 29 i = nI a
  · have hsS' : m_I S' 29 i = nI a := h29i.trans hs
    have hgen : ∀ fu, fX9_merge_140 (fu + 1) S' (nI a) (nI N) (nI i) = (if (m_I S' 37 i) = (-1 : Int32) then (if xin (m_I S' 28 i) 60 = true then (fX9_makes S' (m_I S' 37 (m_I S' 28 i).toNatClampNeg) (m_I S' 30 i) (m_J S' 34 i) (m_J S' 35 i) (m_I S' 33 i)).bind fun q6 => fX9_merge_220 (fX9_merge_140 fu) (ms_I q6.2 37 i q6.1) (nI a) (nI N) (nI i) else none) else fX9_merge_220 (fX9_merge_140 fu) S' (nI a) (nI N) (nI i)) := fun fu => by
      rw [fX9_merge_140, if_neg (nI_ge (by omega) (by omega)), if_pos x60, ci, if_pos hsS']
    have h37i := hf i (Nat.le_refl _) hi
    have hfold : ∀ k, i < k → k < N → m_I S' 37 k = f0 k := fun k h1 h2 => hf k (by omega) h2
    have hnew1 : ∀ j, N ≤ j → j < N' → ∃ k, k < i + 1 ∧ m_I S 29 k = nI a ∧ m_I S' 37 k = nI j := fun j h1 h2 => by
      obtain ⟨k, k1, k2⟩ := hnew j h1 h2
      exact ⟨k, by omega, k2⟩
    rcases b10 i hi hs with ⟨l1, l2⟩ | ⟨l1, pr, l2, l3, l4, l5⟩
    · subst l1
      have hne : ¬ f0 i = -1 := by rw [l2]; exact nI_nm1 (by omega)
      rw [if_neg (fun z => hne z.2)] at hcs
      have him : ImK S S' i b N N' nl nl' f0 i b := ⟨by omega, h37i.trans l2, fun z => absurd z hne, fun _ => ⟨l2, b2⟩, ob2.trans b9.symm, by rw [ob3 29 (by omega) (by omega)]; exact b7, Or.inl ⟨rfl, rfl⟩⟩
      have hr3 : t_R h' (nd' i) 3 = none := by
        obtain ⟨rt, -, -, -, -, -, -, -, -, -, d⟩ := R.node_g hiN
        rcases d with ⟨-, -, d3, -⟩ | ⟨pr, hp, d2, -⟩
        · exact d3
        · rw [oi3 28 (by omega) (by omega), b4] at d2
          exact absurd d2.symm (nI_nm1 (by omega))
      have hex : ∃ h2 S2, J2 u mo t c s n G N P gm nd gl nl ol kp S i b f0 (i + 1) N' h2 S2 nd' nl' ∧ fX7_takeMarks (s_R h' (s + 2) i (some (nd' b))) (nd' b) (some (nd' i)) = some h2 ∧ ∀ k140 : MS → Int32 → Int32 → Int32 → Option (Int32 × MS), fX9_merge_220 k140 S' (nI i) (nI N) (nI i) = k140 S2 (nI i) (nI N) (nI (i + 1)) :=
        take_1 B hi hs R (by omega) hold h47 hfold hpre him hnew1 (nI i) (nI N)
      obtain ⟨h2, S2, t1, t2, t3⟩ := hex
      refine ⟨N', h2, S2, nd', nl', t1, fun fu => ?_, fun fu => ?_⟩
      · rw [hgen, if_neg (by rw [h37i]; exact hne)]
        exact t3 _
      · exact gr_take R hiN (show i < N' by omega) hsS' _ q R (tn_old R hiN (twinOf_0 R hiN hr3 (some (nd' b)))) (R.nm (show b < N' by omega)).1 t2 fu
    · obtain ⟨pj, hpj, htw⟩ := hpre pr l2 l4
      obtain ⟨p1, p2, p3, p4, p5, p6, -⟩ := id hpj
      obtain ⟨op1, op2, op3, op4, op5⟩ := hold pr (by omega)
      have hprN : pr < N' := by omega
      have l3' : m_I S' 28 i = nI pr := (oi3 28 (by omega) (by omega)).trans l3
      have l4' : m_I S' 29 pr = nI a := (op3 29 (by omega) (by omega)).trans l4
      have eg : gOf S' pj = gOf S' pr := by
        unfold gOf
        rw [p6, l4', clp (show b < 2 ^ 31 by omega), clp (show a < 2 ^ 31 by omega), ob3 31 (by omega) (by omega), oa3 31 (by omega) (by omega), b8]
      have egi : gOf S' i = gOf S' pr := by unfold gOf; rw [hsS', l4']
      have enl : nl' pj = nl' pr := p5.trans op2.symm
      obtain ⟨ebd, esd⟩ := nl_eq R p1 hprN enl eg
      obtain ⟨rt, hrt, r29, -, -, -, -, ⟨qq, q5, qW⟩, r34, r33, d⟩ := R.node_g hiN
      rcases d with ⟨-, d2, -⟩ | ⟨pr2, hp2, d2, d3, d4, d5, d6⟩
      · rw [l3'] at d2; exact absurd d2 (nI_nm1 (by omega))
      · have e2 : pr2 = pr := (nI_eq (by omega) (by omega)).mp (d2.symm.trans l3')
        subst e2
        by_cases hfi : f0 i = -1
        · have hhN : N' < 60 := by
            rw [if_pos ⟨hs, hfi⟩] at hcs
            omega
          have hno : ∀ k, k < N' → ¬ (m_I S' 28 k = nI pj ∧ m_I S' 30 k = m_I S' 30 i) := by
            rintro k hk ⟨k28, k30⟩
            by_cases hkN : k < N
            · obtain ⟨-, -, ok3, -, -⟩ := hold k hkN
              rw [ok3 28 (by omega) (by omega)] at k28
              rw [ok3 30 (by omega) (by omega), oi3 30 (by omega) (by omega)] at k30
              have hpk : pj < N := by
                obtain ⟨rtk, -, -, -, -, -, -, -, -, -, dk⟩ := R.node_g hk
                rcases dk with ⟨-, z, -⟩ | ⟨prk, z1, z2, -⟩
                · rw [ok3 28 (by omega) (by omega), k28] at z
                  exact absurd z (nI_nm1 (by omega))
                · rw [ok3 28 (by omega) (by omega), k28] at z2
                  have := (nI_eq (by omega) (by omega)).mp z2
                  omega
              have hfp : ¬ f0 pr2 = -1 := fun z => by have := p3 z; omega
              rcases l5 with ⟨z, -⟩ | ⟨pj0, z1, z2, z3⟩
              · exact hfp z
              · have e3 : pj0 = pj := (nI_eq (by omega) (by omega)).mp (z2.symm.trans (p4 hfp).1)
                subst e3
                rcases z3 with ⟨j, z4, z5, -⟩ | ⟨-, z5⟩
                · rw [hfi] at z5; exact absurd z5.symm (nI_nm1 (by omega))
                · exact z5 k hkN ⟨k28, k30⟩
            · obtain ⟨k2, k3, k4, k5⟩ := hnew k (by omega) hk
              obtain ⟨j2, ⟨j3, j4, -, -, -, -, j5⟩, -⟩ := hpre k2 k3 k4
              have e3 : j2 = k := (nI_eq (by omega) (by omega)).mp (j4.symm.trans k5)
              subst e3
              rcases j5 with ⟨-, z⟩ | ⟨z1, pr3, pj3, z2, z3, z4, z5, z6, z7, z8⟩
              · omega
              · have e4 : pj3 = pj := (nI_eq (by omega) (by omega)).mp (z7.symm.trans k28)
                subst e4
                have e5 := im_inj B h60 (by omega) hNN (by rw [ob3 28 (by omega) (by omega)]; exact b5) hpre pr3 pr2 pj3 (by omega) l2 z4 l4 z6 p2 z5
                subst e5
                have e6 := b11 k2 i (by omega) hi (by rw [z3]; exact nI_nm1 (by omega)) (z3.trans l3.symm) (z8.symm.trans (k30.trans (oi3 30 (by omega) (by omega))))
                omega
          have hd6 : nl' i = (m_J S' 34 i, m_J S' 35 i) :: nl' pj := by
            rw [enl]
            rw [d6] at r34 ⊢
            rw [Option.some.inj r34]
          have hmv : (m_J S' 34 i, m_J S' 35 i) = mvB (m_J S' 34 pj, m_J S' 35 pj) (m_I S' 33 pj) (m_I S' 30 i) := by
            rw [ebd, esd]
            rw [d6] at r34
            exact (Option.some.inj r34).symm
          obtain ⟨h1, g1, g2, R1, gR, -, g4, g5⟩ := grow_ok R hhN (pr := pj) (q := qq) (v := m_I S' 30 i) (sd := m_I S' 33 i) (x := (m_J S' 34 i, m_J S' 35 i)) p1 (R.okb hiN _ (by rw [hd6]; exact List.mem_cons_self)) d5 hmv (by rw [eg, ← egi, ← hd6]; exact qW) (by rw [eg, ← egi, r33, hd6, List.length_cons, Nat.add_sub_cancel]) hno
          have htwo : fX6_twinOf h' s (some (nd' i)) (some (nd' b)) = some none := by
            rcases child_ok R p1 (m_I S' 30 i) with ⟨k, hk, k28, k30, -⟩ | ⟨-, c1, -⟩
            · exact absurd ⟨k28, k30⟩ (hno k hk)
            · exact twinOf_2 R hiN hprN d4 _ _ htw c1
          have htn := tn_new R hiN hprN d4 htwo htw q5 g1
          have hS1 : ∀ x j, x ≠ 37 → j ≠ N' → m_I (ms_I (mkS S' N' (nI pj) (m_I S' 30 i) (m_J S' 34 i) (m_J S' 35 i) (m_I S' 33 i) (m_I S' 29 pj)) 37 i (nI N')) x j = m_I S' x j := fun x j hx hj => by
            rw [mI_I, if_neg (fun z => hx z.1), mkS_I, if_neg (fun z => hj z.2), if_neg (fun z => hj z.2), if_neg (fun z => hj z.2), if_neg (fun z => hj z.2)]
          have hS37 : ∀ j, j ≠ i → m_I (ms_I (mkS S' N' (nI pj) (m_I S' 30 i) (m_J S' 34 i) (m_J S' 35 i) (m_I S' 33 i) (m_I S' 29 pj)) 37 i (nI N')) 37 j = m_I S' 37 j := fun j hj => by
            rw [mI_I, if_neg (fun z => hj z.2), mkS_I, if_neg (fun z => by omega), if_neg (fun z => by omega), if_neg (fun z => by omega), if_neg (fun z => by omega)]
          have hS37i : m_I (ms_I (mkS S' N' (nI pj) (m_I S' 30 i) (m_J S' 34 i) (m_J S' 35 i) (m_I S' 33 i) (m_I S' 29 pj)) 37 i (nI N')) 37 i = nI N' := by rw [mI_I, if_pos ⟨rfl, rfl⟩]
          have hSJ : ∀ x j, j ≠ N' → m_J (ms_I (mkS S' N' (nI pj) (m_I S' 30 i) (m_J S' 34 i) (m_J S' 35 i) (m_I S' 33 i) (m_I S' 29 pj)) 37 i (nI N')) x j = m_J S' x j := fun x j hj => by
            rw [mJ_I, mkS_J, if_neg (fun z => hj z.2), if_neg (fun z => hj z.2)]
          have hS28 : m_I (ms_I (mkS S' N' (nI pj) (m_I S' 30 i) (m_J S' 34 i) (m_J S' 35 i) (m_I S' 33 i) (m_I S' 29 pj)) 37 i (nI N')) 28 N' = nI pj := by
            rw [mI_I, if_neg (fun z => by omega), mkS_I, if_neg (by omega), if_neg (by omega), if_neg (by omega), if_pos ⟨rfl, rfl⟩]
          have hS29 : m_I (ms_I (mkS S' N' (nI pj) (m_I S' 30 i) (m_J S' 34 i) (m_J S' 35 i) (m_I S' 33 i) (m_I S' 29 pj)) 37 i (nI N')) 29 N' = m_I S' 29 pj := by
            rw [mI_I, if_neg (fun z => by omega), mkS_I, if_pos ⟨rfl, rfl⟩]
          have hS30 : m_I (ms_I (mkS S' N' (nI pj) (m_I S' 30 i) (m_J S' 34 i) (m_J S' 35 i) (m_I S' 33 i) (m_I S' 29 pj)) 37 i (nI N')) 30 N' = m_I S' 30 i := by
            rw [mI_I, if_neg (fun z => by omega), mkS_I, if_neg (by omega), if_neg (by omega), if_pos ⟨rfl, rfl⟩]
          have hS47 : m_i (ms_I (mkS S' N' (nI pj) (m_I S' 30 i) (m_J S' 34 i) (m_J S' 35 i) (m_I S' 33 i) (m_I S' 29 pj)) 37 i (nI N')) 47 = 0 := by
            rw [mi_I, mkS_i, if_neg (by omega)]; exact h47
          have R2 : Rel u mo h1 (ms_I (mkS S' N' (nI pj) (m_I S' 30 i) (m_J S' 34 i) (m_J S' 35 i) (m_I S' 33 i) (m_I S' 29 pj)) 37 i (nI N')) t c s n G (N' + 1) P gm (upN nd' N' (t_sz h')) gl (upN nl' N' ((m_J S' 34 i, m_J S' 35 i) :: nl' pj)) ol kp := R1.sq Sq.w37
          have g2' : fX9_makes S' (m_I S' 37 (m_I S' 28 i).toNatClampNeg) (m_I S' 30 i) (m_J S' 34 i) (m_J S' 35 i) (m_I S' 33 i) = some (nI N', mkS S' N' (nI pj) (m_I S' 30 i) (m_J S' 34 i) (m_J S' 35 i) (m_I S' 33 i) (m_I S' 29 pj)) := by
            rw [l3', clp (show pr2 < 2 ^ 31 by omega), p2]; exact g2
          have hgen2 : ∀ fu, fX9_merge_140 (fu + 1) S' (nI a) (nI N) (nI i) = fX9_merge_220 (fX9_merge_140 fu) (ms_I (mkS S' N' (nI pj) (m_I S' 30 i) (m_J S' 34 i) (m_J S' 35 i) (m_I S' 33 i) (m_I S' 29 pj)) 37 i (nI N')) (nI a) (nI N) (nI i) := fun fu => by
            rw [hgen, if_pos (h37i.trans hfi), g2', l3', if_pos (xin_nI (show pr2 < 60 by omega) (by omega)), Option.bind_some]
          generalize ms_I (mkS S' N' (nI pj) (m_I S' 30 i) (m_J S' 34 i) (m_J S' 35 i) (m_I S' 33 i) (m_I S' 29 pj)) 37 i (nI N') = S1 at *
          rw [if_pos ⟨hs, hfi⟩] at hcs
          have him : ImK S S1 a b N (N' + 1) nl (upN nl' N' ((m_J S' 34 i, m_J S' 35 i) :: nl' pj)) f0 i N' := by
            refine ⟨by omega, hS37i, fun _ => hNN, fun z => absurd hfi z, by rw [upN_at, ← hd6]; exact oi2, hS29.trans p6, Or.inr ⟨l1, pr2, pj, l2, l3, l4, by omega, by rw [hS37 pr2 (by omega)]; exact p2, hS28, hS30.trans (oi3 30 (by omega) (by omega))⟩⟩
          have hex : ∃ h2 S2, J2 u mo t c s n G N P gm nd gl nl ol kp S a b f0 (i + 1) (N' + 1) h2 S2 (upN nd' N' (t_sz h')) (upN nl' N' ((m_J S' 34 i, m_J S' 35 i) :: nl' pj)) ∧ fX7_takeMarks (s_R h1 (s + 2) i (some (upN nd' N' (t_sz h') N'))) (upN nd' N' (t_sz h') N') (some (upN nd' N' (t_sz h') i)) = some h2 ∧ ∀ k140 : MS → Int32 → Int32 → Int32 → Option (Int32 × MS), fX9_merge_220 k140 S1 (nI a) (nI N) (nI i) = k140 S2 (nI a) (nI N) (nI (i + 1)) := by
            refine take_1 B hi hs R2 (by omega) (fun k hk => ?_) hS47 (fun k h1 h2 => by rw [hS37 k (by omega)]; exact hfold k h1 h2) (fun k hk hk29 => ?_) him (fun j h1 h2 => ?_) (nI a) (nI N)
            · obtain ⟨o1, o2, o3, o4, o5⟩ := hold k hk
              exact ⟨(upN_ne (by omega)).trans o1, (upN_ne (by omega)).trans o2, fun x x1 x2 => by rw [hS1 x k (by omega) (by omega)]; exact o3 x x1 x2, by rw [hSJ 34 k (by omega)]; exact o4, by rw [hSJ 35 k (by omega)]; exact o5⟩
            · obtain ⟨j, j1, j2⟩ := hpre k hk hk29
              have jl := j1.1
              refine ⟨j, j1.up (by omega) (fun x j hx hj => hS1 x j (by omega) (by omega)) (fun j hj => hS37 j (by omega)) (fun j hj => upN_ne (by omega)), ?_⟩
              rw [gR (s + 2) (by rw [R.tws.2.1]; decide) (by omega), upN_ne (by omega)]
              exact j2
            · by_cases e : j = N'
              · subst e; exact ⟨i, by omega, hs, hS37i⟩
              · obtain ⟨k, k1, k2, k3⟩ := hnew j h1 (by omega)
                exact ⟨k, by omega, k2, by rw [hS37 k (by omega)]; exact k3⟩
          obtain ⟨h2, S2, t1, t2, t3⟩ := hex
          rw [upN_at, upN_ne (show i ≠ N' by omega)] at t2
          refine ⟨N' + 1, h2, S2, _, _, t1, fun fu => ?_, fun fu => ?_⟩
          · rw [hgen2]
            exact t3 _
          · exact gr_take R hiN (show a < N' by omega) hsS' _ q R2 htn g4 t2 fu
        · rw [if_neg (fun z => hfi z.2)] at hcs
          rcases l5 with ⟨-, z⟩ | ⟨pj0, z1, z2, z3⟩
          · exact absurd z hfi
          · have hfp : ¬ f0 pr2 = -1 := by rw [z2]; exact nI_nm1 (by omega)
            have e3 : pj0 = pj := (nI_eq (by omega) (by omega)).mp (z2.symm.trans (p4 hfp).1)
            subst e3
            rcases z3 with ⟨j, z4, z5, z6, z7⟩ | ⟨z4, -⟩
            · obtain ⟨-, oj2, oj3, -, -⟩ := hold j z4
              have j28 : m_I S' 28 j = nI pj0 := (oj3 28 (by omega) (by omega)).trans z6
              have j30 : m_I S' 30 j = m_I S' 30 i := (oj3 30 (by omega) (by omega)).trans (z7.trans (oi3 30 (by omega) (by omega)).symm)
              have hjN : j < N' := by omega
              have htwo : fX6_twinOf h' s (some (nd' i)) (some (nd' b)) = some (some (nd' j)) := by
                rcases child_ok R p1 (m_I S' 30 i) with ⟨k, hk, k28, k30, c1, -⟩ | ⟨hno, -, -⟩
                · have : k = j := R.2.2.2.2.1.2.2.2.2.2.1 k j hk hjN (by rw [k28]; exact nI_nm1 (by omega)) (k28.trans j28.symm) (k30.trans j30.symm)
                  subst this
                  exact twinOf_2 R hiN hprN d4 _ _ htw c1
                · exact absurd ⟨j28, j30⟩ (hno j hjN)
              obtain ⟨rtj, hrtj, j29, -, -, -, -, -, -, -, dj⟩ := R.node_g hjN
              rcases dj with ⟨-, y, -⟩ | ⟨prj, y1, y2, y3, -, -, y6⟩
              · rw [j28] at y; exact absurd y (nI_nm1 (by omega))
              · have e4 : prj = pj0 := (nI_eq (by omega) (by omega)).mp (y2.symm.trans j28)
                subst e4
                have him : ImK S S' a b N N' nl nl' f0 i j := ⟨hjN, h37i.trans z5, fun z => absurd z hfi, fun _ => ⟨z5, z4⟩, by rw [← oi2, y6, d6, enl, ebd, esd, j30], j29.trans (y3.symm.trans p6), Or.inr ⟨l1, pr2, prj, l2, l3, l4, p1, p2, j28, (oj3 30 (by omega) (by omega)).trans z7⟩⟩
                have hex : ∃ h2 S2, J2 u mo t c s n G N P gm nd gl nl ol kp S a b f0 (i + 1) N' h2 S2 nd' nl' ∧ fX7_takeMarks (s_R h' (s + 2) i (some (nd' j))) (nd' j) (some (nd' i)) = some h2 ∧ ∀ k140 : MS → Int32 → Int32 → Int32 → Option (Int32 × MS), fX9_merge_220 k140 S' (nI a) (nI N) (nI i) = k140 S2 (nI a) (nI N) (nI (i + 1)) :=
                  take_1 B hi hs R (by omega) hold h47 hfold hpre him hnew1 (nI a) (nI N)
                obtain ⟨h2, S2, t1, t2, t3⟩ := hex
                refine ⟨N', h2, S2, nd', nl', t1, fun fu => ?_, fun fu => ?_⟩
                · rw [hgen, if_neg (by rw [h37i]; exact hfi)]
                  exact t3 _
                · exact gr_take R hiN (show a < N' by omega) hsS' _ q R (tn_old R hiN htwo) (R.nm hjN).1 t2 fu
            · exact absurd z4 hfi
  · have hsS' : ¬ m_I S' 29 i = nI a := fun z => hs (h29i.symm.trans z)
    rw [if_neg (fun z => hs z.1)] at hcs
    refine ⟨N', h', S', nd', nl', ⟨R, by omega, hold, h47, fun k h1 h2 => hf k (by omega) h2, fun k hk hk29 => ?_, fun j h1 h2 => ?_⟩, fun fu => ?_, fun fu => gr_skip R (by omega) (by omega) (fun _ => hsS') fu _ q⟩
    · by_cases e : k = i
      · subst e; exact absurd hk29 hs
      · exact hpre k (by omega) hk29
    · obtain ⟨k, k1, k2⟩ := hnew j h1 h2
      exact ⟨k, by omega, k2⟩
    · rw [fX9_merge_140, if_neg (nI_ge (by omega) (by omega)), if_pos x60, ci, if_neg hsS']
      unfold fX9_merge_288
      rw [nI_1]
end MERGE4
/-! PURE 44: merge. -/
section MERGE5
variable {u mo : Nat} {h : TH} {S : MS} {t c s n G N P : Nat} {gm nd : Nat → Nat} {gl nl : Nat → List BW} {ol : List Nat} {kp : Nat → Bool} {a b : Nat} {f0 : Nat → Int32}
theorem take_all (B : Bs S nl N a b f0) (hM : N + cL S f0 a N ≤ 60) (q : Int32) : ∀ (d i fu fu6 N' : Nat) (h' : TH) (S' : MS) (nd' : Nat → Nat) (nl' : Nat → List BW), i + d = N → d < fu → 60 - i < fu6 → J2 u mo t c s n G N P gm nd gl nl ol kp S a b f0 i N' h' S' nd' nl' →
    ∃ N2 h2 S2 nd2 nl2, J2 u mo t c s n G N P gm nd gl nl ol kp S a b f0 N N2 h2 S2 nd2 nl2 ∧ fX9_merge_140 fu S' (nI a) (nI N) (nI i) = some (nI (cL S f0 a N), S2) ∧ fX6_graft_26 fu6 h' s (some (nd a)) (some (nd b)) q (nI i) = some (q, h2) := by
  intro d
  induction d with
  | zero =>
    intro i fu fu6 N' h' S' nd' nl' hi hf hf6 hI
    have hiN : i = N := by omega
    subst hiN
    obtain ⟨R, hN', hold, h47, hf37, hpre, hnew⟩ := id hI
    have h60 := R.N60
    obtain ⟨fu, rfl⟩ : ∃ j, fu = j + 1 := ⟨fu - 1, by omega⟩
    have ha := B.1
    refine ⟨N', h', S', nd', nl', hI, ?_, ?_⟩
    · rw [fX9_merge_140, if_pos (nI_le (Nat.le_refl _) (by omega)), R.2.2.2.2.1.2.2.1, pk_sub (by omega), show N' - i = cL S f0 a i by omega]
    · rw [← (hold a ha).1]
      refine gr_tail R (by omega) _ q (60 - i) fu6 i (by omega) (fun k h1 h2 z => ?_) hf6
      obtain ⟨k2, k3, k4, k5⟩ := hnew k h1 h2
      obtain ⟨j2, ⟨j3, j4, -, -, -, j5, -⟩, -⟩ := hpre k2 k3 k4
      have e3 : j2 = k := (nI_eq (by omega) (by omega)).mp (j4.symm.trans k5)
      subst e3
      have := (nI_eq (by have := B.2.1; omega) (by omega)).mp (j5.symm.trans z)
      exact B.2.2.1 this.symm
  | succ d ih =>
    intro i fu fu6 N' h' S' nd' nl' hi hf hf6 hI
    obtain ⟨fu, rfl⟩ : ∃ j, fu = j + 1 := ⟨fu - 1, by omega⟩
    obtain ⟨fu6, rfl⟩ : ∃ j, fu6 = j + 1 := ⟨fu6 - 1, by omega⟩
    obtain ⟨N2, h2, S2, nd2, nl2, i1, i2, i3⟩ := take_step B hI (by omega) hM q
    obtain ⟨N3, h3, S3, nd3, nl3, j1, j2, j3⟩ := ih (i + 1) fu fu6 N2 h2 S2 nd2 nl2 (by omega) (by omega) (by omega) i1
    exact ⟨N3, h3, S3, nd3, nl3, j1, (i2 fu).trans j2, (i3 fu6).trans j3⟩
/-- two lessons with one beginning -/
theorem same_nl (H : Rel u mo h S t c s n G N P gm nd gl nl ol kp) (hP : P ≤ 4000) (ha : a < N) (hb : b < N) (a28 : m_I S 28 a = -1) (b28 : m_I S 28 b = -1) (e31 : m_I S 31 a = m_I S 31 b) (e32 : m_I S 32 a = m_I S 32 b) : nl a = nl b ∧ m_I S 29 a = nI a ∧ m_I S 29 b = nI b := by
  have h60 := H.N60
  have hla := nl_len H a ha
  have hlb := nl_len H b hb
  obtain ⟨ra, -, a29, -, aG, a31, -, -, a34, -, da⟩ := H.node_g ha
  obtain ⟨rb, -, b29, -, bG, b31, -, -, b34, -, db⟩ := H.node_g hb
  rcases da with ⟨a1, -, -, -, a32, prea, ea⟩ | ⟨pr, hpr, z, -⟩
  · rcases db with ⟨b1, -, -, -, b32, preb, eb⟩ | ⟨pr, hpr, z, -⟩
    · subst a1
      subst b1
      refine ⟨?_, a29, b29⟩
      have h16 := H.G16
      have eg : gOf S ra = gOf S rb := (nI_eq (by omega) (by omega)).mp (a31.symm.trans (e31.trans b31))
      have ela := congrArg List.length ea
      have elb := congrArg List.length eb
      rw [List.length_append] at ela elb
      have hga := H.2.2.2.2.2.1.2.1 _ aG
      have hgb := H.2.2.2.2.2.1.2.1 _ bG
      have na : (nl ra).length ≠ 0 := fun z => by
        rw [List.length_eq_zero_iff] at z
        rw [z] at a34; cases a34
      have nb : (nl rb).length ≠ 0 := fun z => by
        rw [List.length_eq_zero_iff] at z
        rw [z] at b34; cases b34
      have el : (nl ra).length = (nl rb).length := by
        have := (nI_eq (by omega) (by omega)).mp (a32.symm.trans (e32.trans b32))
        omega
      rw [← eg] at eb
      exact (List.append_inj' (ea.symm.trans eb) el).2
    · rw [b28] at z; exact absurd z.symm (nI_nm1 (by omega))
  · rw [a28] at z; exact absurd z.symm (nI_nm1 (by omega))
theorem rootF (H : Rel u mo h S t c s n G N P gm nd gl nl ol kp) (ha : a < N) (a28 : m_I S 28 a = -1) : t_R h (nd a) 3 = none ∧ t_I h (nd a) 2 = m_I S 31 a ∧ ∃ q, t_R h (nd a) 5 = some q ∧ t_kd h q = 4 ∧ t_I h q 3 = m_I S 32 a := by
  have h60 := H.N60
  obtain ⟨ra, -, a29, -, aG, a31, a2, ⟨q, q5, qW⟩, a34, -, da⟩ := H.node_g ha
  rcases da with ⟨a1, -, a3, -, a32, -⟩ | ⟨pr, hpr, z, -⟩
  · subst a1
    refine ⟨a3, a2.trans a31.symm, q, q5, ?_⟩
    cases hl : nl ra with
    | nil => rw [hl] at a34; cases a34
    | cons x l =>
      rw [hl] at qW a32
      exact ⟨qW.1, by rw [a32]; exact qW.2.2.2.2.1⟩
  · rw [a28] at z; exact absurd z.symm (nI_nm1 (by omega))
theorem rootN (H : Rel u mo h S t c s n G N P gm nd gl nl ol kp) (ha : a < N) (a28 : ¬ m_I S 28 a = -1) : ¬ t_R h (nd a) 3 = none := by
  obtain ⟨ra, -, -, -, -, -, -, -, -, -, da⟩ := H.node_g ha
  rcases da with ⟨-, z, -⟩ | ⟨pr, -, -, -, z, -⟩
  · exact absurd z a28
  · rw [z]; simp
/-- merge -/
theorem call_merge {K : Nat} (hK : K ≤ 4000) (H0 : RR mo t K h S) (x y : Int32) : Agr mo t K [eI, eA, eS] (fX8_merge h t x y) (fX9_merge S x y) := by
  obtain ⟨c, s, n, G, N, P, gm, nd, gl, nl, ol, kp, hP, H⟩ := id H0
  have h60 := H.N60
  have hk5 : t_kd h s = 5 := H.1.2.2.2.2.1
  have n10' : ¬ (1 : Int32) = 0 := by decide
  have err1 : ∀ r8, r8 = some (.inr (eI, h)) → Agr (α := Int32) mo t K [eI, eA, eS] r8 (fX9_merge_21 S x y 0) :=
    fun r8 h8 => Agr.err H0 (fun n => Sq.f) (j := 0) (E := eI) (b := 0) (S2 := ms_i S 47 1) rfl (by omega) h8 (by unfold fX9_merge_21; rw [if_pos rfl]; unfold fX9_merge_82; rw [if_pos rfl]; unfold fX9_merge_123; rw [fails_1]; rfl) i47
  unfold fX8_merge fX9_merge
  rw [if_pos H.1.1, isNode_X9 H, Option.bind_some]
  rcases twigOf_X8 H x with ⟨a, ha, rfl, e⟩ | ⟨e1, e⟩
  · rw [isN_nI ha (by omega), if_neg tf, isNode_X9 H, Option.bind_some, e, Option.bind_some, xcs_1]
    dsimp only
    rw [if_pos H.1.1]
    rcases twigOf_X8 H y with ⟨b, hb, rfl, e'⟩ | ⟨e1, e'⟩
    · rw [isN_nI hb (by omega), if_neg tf, e', Option.bind_some, xcs_1]
      dsimp only
      have err2 : ∀ r8, r8 = some (.inr (eA, h)) → Agr (α := Int32) mo t K [eI, eA, eS] r8 (fX9_merge_82 S (nI a) (nI b) 1 0) :=
        fun r8 h8 => Agr.err H0 (fun n => Sq.f) (j := 1) (E := eA) (b := 0) (S2 := ms_i S 47 2) rfl (by omega) h8 (by unfold fX9_merge_82; rw [if_neg n10', if_pos rfl]; unfold fX9_merge_123; rw [fails_2]; rfl) i47
      unfold fX9_merge_21
      rw [if_neg n10']
      by_cases hab : nI a = nI b
      · rw [if_pos hab, if_pos hab]
        exact err2 _ rfl
      · have xa : xin (nI a) 60 = true := xin_nI (by omega) (by omega)
        have xb' : xin (nI b) 60 = true := xin_nI (by omega) (by omega)
        have ca := clp (k := a) (show a < 2 ^ 31 by omega)
        have cb := clp (k := b) (show b < 2 ^ 31 by omega)
        rw [if_neg hab, if_neg hab, Option.bind_some, if_pos (H.nm ha).1]
        unfold fX9_isRoot fX7_beginsAs
        rw [if_pos xa, if_pos xb', ca, cb, if_pos (H.nm ha).1]
        by_cases a28 : m_I S 28 a = -1
        · obtain ⟨a3, a2, qa, qa5, qa4, qa3⟩ := rootF H ha a28
          rw [if_pos a28, if_pos a3, Option.bind_some, if_pos (H.nm hb).1]
          by_cases b28 : m_I S 28 b = -1
          · obtain ⟨b3, b2, qb, qb5, qb4, qb3⟩ := rootF H hb b28
            rw [if_pos b28, if_pos b3, a2, b2, Option.bind_some, if_neg tf, Option.bind_some, if_neg tf, if_pos xa, if_pos xb']
            by_cases e31 : m_I S 31 a = m_I S 31 b
            · rw [if_pos e31, if_pos e31, qa5, Option.bind_some, if_pos qa4, qb5, Option.bind_some, if_pos qb4, qa3, qb3]
              by_cases e32 : m_I S 32 a = m_I S 32 b
              · rw [if_pos e32, if_pos e32, Option.bind_some, if_neg tf, if_pos H.1.1, H.1.2.2.1, Option.bind_some, if_pos hk5]
                obtain ⟨enl, a29, b29⟩ := same_nl H (by omega) ha hb a28 b28 e31 e32
                obtain ⟨h2, S2, i1, i2, i3⟩ := miss_ok (u := 16) (mo := mo) (S := S) ha hb a28 N 0 FU FU h S (by omega) (by unfold FU; omega) (by unfold FU; omega) ⟨H, fun _ _ => rfl, rfl, rfl, rfl, fun k hk => absurd hk (by omega)⟩
                obtain ⟨R2, eX, ei, eJ, ej, hk⟩ := i1
                have i2' : fX9_lacks S (nI a) (nI b) = some (nI (cL S (m_I S2 37) a N), S2) := i2
                have i3' : fX6_countMissing h s (some (nd a)) (some (nd b)) = some (nI (cL S (m_I S2 37) a N), h2) := i3
                have ecl : cL S2 (m_I S2 37) a N = cL S (m_I S2 37) a N := by unfold cL; rw [eX 29 (by omega)]
                have hcN : cL S (m_I S2 37) a N ≤ N := cL_le
                have hk52 : t_kd h2 s = 5 := R2.1.2.2.2.2.1
                obtain ⟨r0, r13, r60⟩ := R2.1.2.2.2.2.2.1
                unfold fX6_graft fX9_merge_82
                rw [if_pos hk5, i3', Option.bind_some, if_neg n10', if_neg n10', i2', Option.bind_some]
                dsimp only
                rw [if_pos hk52, r0, Option.bind_some, if_pos r13, R2.2.2.2.2.1.2.1, r60, H.2.2.2.2.1.2.2.1, nI_add]
                by_cases hle : N + cL S (m_I S2 37) a N ≤ 60
                · rw [if_pos (nI_le hle (by omega)), if_pos (show nI (N + cL S (m_I S2 37) a N) ≤ (60 : Int32) from nI_le (b := 60) hle (by omega))]
                  have B : Bs S2 nl N a b (m_I S2 37) := by
                    refine ⟨ha, hb, fun z => hab (by rw [z]), ?_, ?_, ?_, ?_, ?_, enl, fun k hk1 hk2 => (hk k hk1 (by rw [← eX 29 (by omega)]; exact hk2)).1, R2.2.2.2.2.1.2.2.2.2.2.1⟩
                    · rw [eX 28 (by omega)]; exact a28
                    · rw [eX 28 (by omega)]; exact b28
                    · rw [eX 29 (by omega)]; exact a29
                    · rw [eX 29 (by omega)]; exact b29
                    · rw [eX 31 (by omega)]; exact e31
                  have hI2 : J2 16 mo t c s n G N P gm nd gl nl ol kp S2 a b (m_I S2 37) 0 N h2 (ms_i S2 47 0) nd nl :=
                    ⟨R2.sq Sq.f, rfl, fun k _ => ⟨rfl, rfl, fun _ _ _ => rfl, rfl, rfl⟩, i47, fun _ _ _ => rfl, fun k hk => absurd hk (by omega), fun j h1 h2 => absurd h2 (by omega)⟩
                  obtain ⟨N3, h3, S3, nd3, nl3, j1, j2, j3⟩ := take_all B (by rw [ecl]; exact hle) (nI (cL S (m_I S2 37) a N)) N 0 FU 61 N h2 (ms_i S2 47 0) nd nl (by omega) (by unfold FU; omega) (by omega) hI2
                  rw [ecl] at j2
                  have j2' : fX9_merge_140 FU (ms_i S2 47 0) (nI a) (nI N) 0 = some (nI (cL S (m_I S2 37) a N), S3) := j2
                  have j3' : fX6_graft_26 61 h2 s (some (nd a)) (some (nd b)) (nI (cL S (m_I S2 37) a N)) 0 = some (nI (cL S (m_I S2 37) a N), h3) := j3
                  have e36 : m_i (ms_i S2 47 0) 36 = nI N := by rw [mi_i, if_neg (by omega)]; exact R2.2.2.2.2.1.2.2.1
                  unfold fX9_merge_123
                  rw [j3', Option.bind_some, fails_0, Option.bind_some]
                  dsimp only
                  rw [if_pos rfl, e36, j2', if_pos (nI_pos' (by omega))]
                  obtain ⟨R3, -, -, z47, -⟩ := j1
                  exact ⟨h3, S3, ⟨c, s, n, G, N3, P, gm, nd3, gl, nl3, ol, kp, by omega, R3⟩, Or.inl ⟨_, rfl, rfl, z47⟩⟩
                · rw [if_neg (nI_ge (by omega) (by omega)), if_neg (show ¬ nI (N + cL S (m_I S2 37) a N) ≤ (60 : Int32) from nI_ge (a := 60) (by omega) (by omega)), Option.bind_some]
                  unfold fX9_merge_123
                  rw [fails_3, Option.bind_some]
                  dsimp only
                  rw [if_neg (by decide), if_neg tf]
                  exact ⟨h2, ms_i S2 47 3, ⟨c, s, n, G, N, P, gm, nd, gl, nl, ol, kp, by omega, R2.sq Sq.f⟩, Or.inr ⟨2, eS, 0, rfl, by omega, rfl, rfl, i47⟩⟩
              · rw [if_neg e32, if_neg e32, Option.bind_some, if_pos rfl]
                exact err2 _ rfl
            · rw [if_neg e31, if_neg e31, Option.bind_some, if_pos rfl]
              exact err2 _ rfl
          · rw [if_neg b28, if_neg (rootN H hb b28), Option.bind_some, if_pos rfl, Option.bind_some, if_neg tf, Option.bind_some, if_pos rfl]
            exact err2 _ rfl
        · rw [if_neg a28, if_neg (rootN H ha a28), Option.bind_some, if_pos rfl, Option.bind_some, if_pos rfl]
          exact err2 _ rfl
    · rw [e1, if_pos rfl, e', Option.bind_some, xcs_2]
      exact err1 _ rfl
  · rw [e1, if_pos rfl, e, Option.bind_some, xcs_2]
    exact err1 _ rfl
end MERGE5
