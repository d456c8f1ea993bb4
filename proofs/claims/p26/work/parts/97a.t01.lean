/-! P26 1: the law's own board: neighbours, chains, counting, a stone put, the score. -/
theorem le_n (c : Int32) (b : Nat) {k : Nat} (e : c = nI b) (h : b ≤ k) (hk : k < 2 ^ 31) : c ≤ nI k := by rw [e]; exact nI_le h hk
theorem ge_n (c : Int32) (b : Nat) {k : Nat} (e : c = nI b) (h : k < b) (hk : b < 2 ^ 31) : ¬ c ≤ nI k := by rw [e]; exact nI_ge h hk
theorem n_le (c : Int32) (b : Nat) {k : Nat} (e : c = nI b) (h : k ≤ b) (hk : b < 2 ^ 31) : nI k ≤ c := by rw [e]; exact nI_le h hk
theorem n_ge (c : Int32) (b : Nat) {k : Nat} (e : c = nI b) (h : b < k) (hk : k < 2 ^ 31) : ¬ nI k ≤ c := by rw [e]; exact nI_ge h hk
theorem n_eq (c : Int32) (b : Nat) {k : Nat} (e : c = nI b) (h : b < 2 ^ 31) (hk : k < 2 ^ 31) : nI k = c ↔ k = b := by rw [e]; exact nI_eq hk h
theorem FU_lt {d : Nat} (h : d ≤ 100000) : d < FU := Nat.lt_of_le_of_lt h (by unfold FU; decide)
theorem around_L (w : Int64) : fL_around w = some (ar w) := by
  unfold fL_around ar
  rw [show ((283691315109952 : Int64) ^^^ (-1 : Int64)) = -283691315109953 by decide, show ((4432676798593 : Int64) ^^^ (-1 : Int64)) = -4432676798594 by decide]
  congr 2
  refine bt_ext fun i _ => ?_
  simp only [bt_or, Bool.or_assoc]
def itn : Nat → Int64 → Int64 → Int64
  | 0, _, x => x
  | d + 1, w, x => itn d w (stp w x)
theorem chain_9 {w : Int64} : ∀ (d fu : Nat) (x : Int64) (i : Nat), i + d = 49 → d < fu → fL_chain_9 fu w x (nI i) = some (itn d w x) := by
  intro d
  induction d with
  | zero =>
    intro fu x i hi hf
    obtain ⟨f, rfl⟩ : ∃ f, fu = f + 1 := ⟨fu - 1, by omega⟩
    rw [fL_chain_9, if_pos (le_n 49 49 (by decide) (by omega) (by omega))]; rfl
  | succ d ih =>
    intro fu x i hi hf
    obtain ⟨f, rfl⟩ : ∃ f, fu = f + 1 := ⟨fu - 1, by omega⟩
    rw [fL_chain_9, if_neg (ge_n 49 49 (by decide) (by omega) (by omega)), around_L, Option.bind_some, nI_1]
    exact ih f _ _ (by omega) (by omega)
theorem itn_fix {w : Int64} : ∀ (d : Nat) (x : Int64), stp w x = x → itn d w x = x := by
  intro d
  induction d with
  | zero => intro x _; rfl
  | succ d ih => intro x h; rw [itn, h]; exact ih x h
theorem itn_cl {w : Int64} (hw : inA w) : ∀ (d : Nat) (x : Int64), sb x w → (x = 0 ∨ 50 ≤ d + cnt x) → Cl x w (itn d w x) := by
  intro d
  induction d with
  | zero =>
    intro x hx h
    by_cases he : stp w x = x
    · rw [itn_fix _ _ he]; exact Cl.fix hw hx he
    · exfalso
      rcases h with h | h
      · subst h
        refine he (bt_ext fun i _ => ?_)
        cases hb : bt (stp w 0) i
        · rw [bt_0]
        · rcases (bt_stp hw hx i).mp hb with q | ⟨-, j, q, -⟩
          · exact absurd q (by rw [bt_0]; decide)
          · exact absurd q (by rw [bt_0]; decide)
      · have := cnt_49 (inA_sb hw hx); omega
  | succ d ih =>
    intro x hx h
    by_cases he : stp w x = x
    · rw [itn_fix _ _ he]; exact Cl.fix hw hx he
    · rw [itn]
      have h0 : ¬ x = 0 := fun e => by
        subst e
        refine he (bt_ext fun i _ => ?_)
        cases hb : bt (stp w 0) i
        · rw [bt_0]
        · rcases (bt_stp hw hx i).mp hb with q | ⟨-, j, q, -⟩
          · exact absurd q (by rw [bt_0]; decide)
          · exact absurd q (by rw [bt_0]; decide)
      have h1 := cnt_lt (stp_up (w := w) (x := x)) (fun e => he e.symm)
      exact Cl.step hw hx (ih _ (stp_sb hw hx) (Or.inr (by rcases h with h | h; exact absurd h h0; omega)))
theorem chain_L {w : Int64} (hw : inA w) {p : Nat} : fL_chain w (nI p) = some (fl (pt p) w) := by
  unfold fL_chain
  show fL_chain_9 FU w (w &&& pt p) (nI 0) = _
  rw [chain_9 49 FU _ 0 rfl (FU_lt (by omega))]
  congr 1
  have h2 := fl_Cl (s := pt p) hw
  rw [Int64.and_comm] at h2
  refine Cl.uniq (itn_cl hw 49 _ (and_sb_l _ _) ?_) h2
  by_cases h0 : (w &&& pt p) = 0
  · exact Or.inl h0
  · exact Or.inr (by have := cnt_pos h0; omega)
/-! single points by shifting -/
theorem bt_shr0 (a : Int64) {k : Nat} (hk : k < 64) : bt (x_shr a (nI k)) 0 = bt a k := by
  unfold x_shr bt
  rw [Int64.toBitVec_shiftRight, x_shN k hk, BitVec.sshiftRight', BitVec.toNat_ofNat, Nat.mod_eq_of_lt (show k < 2 ^ 64 by omega), BitVec.getLsbD_sshiftRight]
  simp [hk]
theorem shr_1 (a : Int64) {k : Nat} (hk : k < 64) : ((x_shr a (nI k)) &&& (1 : Int64)) = if bt a k = true then 1 else 0 := by
  refine bt_ext fun i hi => ?_
  rw [bt_and, bt_1 i hi]
  by_cases h0 : i = 0
  · subst h0
    rw [bt_shr0 a hk]
    cases bt a k <;> decide
  · by_cases hb : bt a k = true
    · rw [if_pos hb, bt_1 i hi]; simp [h0]
    · rw [if_neg hb, bt_0]; simp [h0]
theorem shr_b (a : Int64) {k : Nat} (hk : k < 64) : ((x_shr a (nI k)) &&& (1 : Int64)) = 1 ↔ bt a k = true := by
  rw [shr_1 a hk]
  by_cases hb : bt a k = true
  · rw [if_pos hb]; exact ⟨fun _ => hb, fun _ => rfl⟩
  · rw [if_neg hb]; exact ⟨fun e => absurd e (by decide), fun e => absurd e hb⟩
theorem shr_z (a : Int64) {k : Nat} (hk : k < 64) : ((x_shr a (nI k)) &&& (1 : Int64)) = 0 ↔ bt a k = false := by
  rw [shr_1 a hk]
  by_cases hb : bt a k = true
  · rw [if_pos hb, hb]; exact ⟨fun e => absurd e (by decide), fun e => absurd e (by decide)⟩
  · rw [if_neg hb]; exact ⟨fun _ => by simpa using hb, fun _ => rfl⟩
def cpr (a : Int64) (i : Nat) : Nat := (List.range i).countP (bt a)
theorem cpr_s (a : Int64) (i : Nat) : cpr a (i + 1) = cpr a i + if bt a i = true then 1 else 0 := by
  unfold cpr
  rw [List.range_succ, List.countP_append, List.countP_singleton]
theorem cpr_A {a : Int64} (ha : inA a) : ∀ d, cpr a (49 + d) = cpr a 49 := by
  intro d
  induction d with
  | zero => rfl
  | succ d ih => rw [← Nat.add_assoc, cpr_s, ih, ha (49 + d) (by omega)]; rfl
theorem cnt_cpr {a : Int64} (ha : inA a) : cpr a 49 = cnt a := (cpr_A ha 15).symm
theorem bits_4 {a : Int64} : ∀ (d fu i : Nat), i + d = 49 → d < fu → fL_bits_4 fu a (nI (cpr a i)) (nI i) = some (nI (cpr a 49)) := by
  intro d
  induction d with
  | zero =>
    intro fu i hi hf
    obtain ⟨f, rfl⟩ : ∃ f, fu = f + 1 := ⟨fu - 1, by omega⟩
    obtain rfl : i = 49 := by omega
    rw [fL_bits_4, if_pos (le_n 49 49 (by decide) (by omega) (by omega))]
  | succ d ih =>
    intro fu i hi hf
    obtain ⟨f, rfl⟩ : ∃ f, fu = f + 1 := ⟨fu - 1, by omega⟩
    have h2 := ih f (i + 1) (by omega) (by omega)
    rw [cpr_s] at h2
    rw [fL_bits_4, if_neg (ge_n 49 49 (by decide) (by omega) (by omega))]
    unfold fL_bits_26
    by_cases hb : bt a i = true
    · rw [if_pos ((shr_b a (by omega)).mpr hb), nI_1, nI_1]
      rw [if_pos hb] at h2
      exact h2
    · rw [if_neg (fun e => hb ((shr_b a (by omega)).mp e)), nI_1, Int32.add_zero]
      rw [if_neg hb, Nat.add_zero] at h2
      exact h2
theorem bits_L {a : Int64} (ha : inA a) : fL_bits a = some (nI (cnt a)) := by
  unfold fL_bits
  rw [← cnt_cpr ha]
  exact bits_4 49 FU 0 rfl (FU_lt (by omega))
/-! a stone put -/
theorem or_0 (a : Int64) : a ||| 0 = a := bt_ext fun i _ => by rw [bt_or, bt_0, Bool.or_false]
theorem puts_35 {own oth : Int64} (hoth : inA oth) {L : MS} {a4 a5 : Int32} : ∀ (d fu : Nat) (out : Int64) (k : Nat), k + d = 49 → d < fu →
    (∀ i, bt out i = true ↔ ∃ j, j < k ∧ bt oth j = true ∧ fr (fl (pt j) oth) own oth = 0 ∧ bt (fl (pt j) oth) i = true) →
    fL_puts_35 fu L a4 a5 own oth out (nI k) = (if a4 = 0 then fL_puts_138 L a4 a5 own (oth &&& (dd oth own oth ^^^ (-1))) (dd oth own oth) (0 : Int32) own else fL_puts_138 L a4 a5 own (oth &&& (dd oth own oth ^^^ (-1))) (dd oth own oth) (0 : Int32) (oth &&& (dd oth own oth ^^^ (-1)))) := by
  intro d
  induction d with
  | zero =>
    intro fu out k hk hf hi
    obtain ⟨f, rfl⟩ : ∃ f, fu = f + 1 := ⟨fu - 1, by omega⟩
    obtain rfl : k = 49 := by omega
    have e : out = dd oth own oth := by
      refine sb_eq (fun i h => ?_) (fun i h => ?_)
      · obtain ⟨j, -, h2, h3, h4⟩ := (hi i).mp h
        exact ((dead_X9 hoth).2 i).mpr ⟨fl_sb hoth i h4, by rw [fl_same hoth h2 h4]; exact h3⟩
      · obtain ⟨h2, h3⟩ := ((dead_X9 hoth).2 i).mp h
        exact (hi i).mpr ⟨i, lt49 hoth h2, h2, h3, fl_in hoth h2⟩
    subst e
    rw [fL_puts_35, if_pos (le_n 49 49 (by decide) (by omega) (by omega))]
  | succ d ih =>
    intro fu out k hk hf hi
    obtain ⟨f, rfl⟩ : ∃ f, fu = f + 1 := ⟨fu - 1, by omega⟩
    rw [fL_puts_35, if_neg (ge_n 49 49 (by decide) (by omega) (by omega))]
    have go : ∀ out2 : Int64, (∀ i, bt out2 i = true ↔ ∃ j, j < k + 1 ∧ bt oth j = true ∧ fr (fl (pt j) oth) own oth = 0 ∧ bt (fl (pt j) oth) i = true) → fL_puts_106 (fL_puts_35 f) L a4 a5 own oth out2 (nI k) = (if a4 = 0 then fL_puts_138 L a4 a5 own (oth &&& (dd oth own oth ^^^ (-1))) (dd oth own oth) (0 : Int32) own else fL_puts_138 L a4 a5 own (oth &&& (dd oth own oth ^^^ (-1))) (dd oth own oth) (0 : Int32) (oth &&& (dd oth own oth ^^^ (-1)))) := fun out2 h2 => by
      unfold fL_puts_106
      rw [nI_1]
      exact ih f out2 (k + 1) (by omega) (by omega) h2
    by_cases hb : bt oth k = true
    · rw [if_pos ((shr_b oth (by omega)).mpr hb)]
      by_cases ho : bt out k = true
      · rw [if_neg (fun e => by rw [(shr_z out (by omega)).mp e] at ho; cases ho)]
        refine go out fun i => (hi i).trans ⟨fun ⟨j, h1, h2⟩ => ⟨j, by omega, h2⟩, fun ⟨j, h1, h2, h3, h4⟩ => ?_⟩
        by_cases hj : j = k
        · subst hj
          obtain ⟨j', g1, g2, g3, g4⟩ := (hi j).mp ho
          exact ⟨j', g1, g2, g3, by rw [← fl_same hoth g2 g4]; exact h4⟩
        · exact ⟨j, by omega, h2, h3, h4⟩
      · rw [if_pos ((shr_z out (by omega)).mpr (by simpa using ho)), chain_L hoth, Option.bind_some, around_L, Option.bind_some]
        unfold fL_puts_103
        by_cases hz : fr (fl (pt k) oth) own oth = 0
        · rw [if_pos (show (ar (fl (pt k) oth) &&& ((own ||| oth) ^^^ (-1))) = 0 from hz)]
          refine go _ fun i => ?_
          rw [bt_or, Bool.or_eq_true, hi i]
          constructor
          · rintro (⟨j, h1, h2⟩ | h)
            · exact ⟨j, by omega, h2⟩
            · exact ⟨k, by omega, hb, hz, h⟩
          · rintro ⟨j, h1, h2, h3, h4⟩
            by_cases hj : j = k
            · subst hj; exact Or.inr h4
            · exact Or.inl ⟨j, by omega, h2, h3, h4⟩
        · rw [if_neg (show ¬ (ar (fl (pt k) oth) &&& ((own ||| oth) ^^^ (-1))) = 0 from hz), or_0]
          refine go _ fun i => (hi i).trans ⟨fun ⟨j, h1, h2⟩ => ⟨j, by omega, h2⟩, fun ⟨j, h1, h2, h3, h4⟩ => ⟨j, ?_, h2, h3, h4⟩⟩
          by_cases hj : j = k
          · subst hj; exact absurd h3 hz
          · omega
    · rw [if_neg (fun e => hb ((shr_b oth (by omega)).mp e))]
      refine go _ fun i => (hi i).trans ⟨fun ⟨j, h1, h2⟩ => ⟨j, by omega, h2⟩, fun ⟨j, h1, h2, h3, h4⟩ => ⟨j, ?_, h2, h3, h4⟩⟩
      by_cases hj : j = k
      · subst hj; exact absurd h2 hb
      · omega
/-- how many stones are taken -/
def tkn (x : BW) (c : Int32) (p : Nat) : Nat := cnt (dd (othOf x.1 x.2 c) (putO x.1 x.2 c p) (othOf x.1 x.2 c))
theorem puts_154 {own oth out : Int64} (hown : inA own) (hout : inA out) {L : MS} {p : Nat} {s2 : Int64} : fL_puts_154 L (nI p) own oth out (1 : Int32) s2 = some (if fr (fl (pt p) own) own oth = 0 then -1 else nI (cnt out), ms_J L 10 1 s2) := by
  unfold fL_puts_154
  rw [if_pos (by decide), chain_L hown, Option.bind_some, around_L, Option.bind_some, show (1 : Int32).toNatClampNeg = 1 by decide]
  by_cases h : fr (fl (pt p) own) own oth = 0
  · rw [if_pos h, if_pos (show (ar (fl (pt p) own) &&& ((own ||| oth) ^^^ (-1))) = 0 from h)]
  · rw [if_neg h, if_neg (show ¬ (ar (fl (pt p) own) &&& ((own ||| oth) ^^^ (-1))) = 0 from h), bits_L hout, Option.bind_some]
theorem puts_L {L : MS} {x : BW} {c : Int32} {p : Nat} (hx : OKB x) (hp : p < 49) (hc : c = 0 ∨ c = 1) :
    fL_puts L x.1 x.2 c (nI p) = some (if sui (putO x.1 x.2 c p) (othOf x.1 x.2 c) p = true then -1 else nI (tkn x c p), ms_J (ms_J L 10 0 (mvB x c (nI p)).1) 10 1 (mvB x c (nI p)).2) := by
  have hO := inA_putO (c := c) hx.1 hx.2.1 hp
  have hT := inA_oth (c := c) hx.1 hx.2.1
  have hsub : inA (dd (othOf x.1 x.2 c) (putO x.1 x.2 c p) (othOf x.1 x.2 c)) := inA_sb hT fun i h => (((dead_X9 hT).2 i).mp h).1
  have h0 : fL_puts L x.1 x.2 c (nI p) = fL_puts_27 L c (nI p) (putO x.1 x.2 c p) (othOf x.1 x.2 c) := by
    unfold fL_puts fL_puts_10 putO ownOf othOf
    by_cases h : c = 0
    · rw [if_pos h, if_pos h, if_pos h, if_pos h]; rfl
    · rw [if_neg h, if_neg h, if_neg h, if_neg h]; rfl
  rw [h0]
  unfold fL_puts_27
  have h1 := puts_35 (own := putO x.1 x.2 c p) hT (L := L) (a4 := c) (a5 := nI p) 49 FU 0 0 rfl (FU_lt (by omega)) (fun i => ⟨fun h => absurd h (by rw [bt_0]; decide), fun ⟨j, h, _⟩ => absurd h (by omega)⟩)
  rw [show (0 : Int32) = nI 0 from rfl]
  rw [h1, alv_dd hT, mvB_p hp]
  have e0 : (0 : Int32).toNatClampNeg = 0 := by decide
  have hs : ∀ z : Int32, (if fr (fl (pt p) (putO x.1 x.2 c p)) (putO x.1 x.2 c p) (alv (putO x.1 x.2 c p) (othOf x.1 x.2 c)) = 0 then (-1 : Int32) else z) = if sui (putO x.1 x.2 c p) (othOf x.1 x.2 c) p = true then -1 else z := fun z => by
    unfold sui
    by_cases h : fr (fl (pt p) (putO x.1 x.2 c p)) (putO x.1 x.2 c p) (alv (putO x.1 x.2 c p) (othOf x.1 x.2 c)) = 0
    · rw [if_pos h, if_pos (decide_eq_true h)]
    · rw [if_neg h, if_neg (by simpa using h)]
  unfold fL_puts_138
  by_cases h : c = 0
  · rw [if_pos h, if_pos (by decide), if_pos h, if_pos h, puts_154 hO hsub, hs, e0]
    unfold tkn putA
    rfl
  · rw [if_neg h, if_pos (by decide), if_neg h, if_neg h, puts_154 hO hsub, hs, e0]
    unfold tkn putA
    rfl
/-! the score -/
theorem score_39 {b w E : Int64} (hb : inA b) (hw : inA w) (hE : inA E) (z0 : Int) : ∀ (d fu k : Nat), k + d = 49 → d < fu →
    fL_score_39 fu b w (Int32.ofInt (z0 + cpr (terr b w E) k - cpr (terr w b E) k)) E (nI k) = some (Int32.ofInt (z0 + cpr (terr b w E) 49 - cpr (terr w b E) 49)) := by
  intro d
  induction d with
  | zero =>
    intro fu k hk hf
    obtain ⟨f, rfl⟩ : ∃ f, fu = f + 1 := ⟨fu - 1, by omega⟩
    obtain rfl : k = 49 := by omega
    rw [fL_score_39, if_pos (le_n 49 49 (by decide) (by omega) (by omega))]
  | succ d ih =>
    intro fu k hk hf
    obtain ⟨f, rfl⟩ : ∃ f, fu = f + 1 := ⟨fu - 1, by omega⟩
    rw [fL_score_39, if_neg (ge_n 49 49 (by decide) (by omega) (by omega))]
    have go : ∀ z : Int32, z = Int32.ofInt (z0 + cpr (terr b w E) (k + 1) - cpr (terr w b E) (k + 1)) → fL_score_120 (fL_score_39 f) b w z E (nI k) = some (Int32.ofInt (z0 + cpr (terr b w E) 49 - cpr (terr w b E) 49)) := fun z e => by
      subst e
      unfold fL_score_120
      rw [nI_1]
      exact ih f (k + 1) (by omega) (by omega)
    have tb := bt_terr (b := b) (w := w) (E := E) (i := k) (by omega)
    have tw := bt_terr (b := w) (w := b) (E := E) (i := k) (by omega)
    have s1 := cpr_s (terr b w E) k
    have s2 := cpr_s (terr w b E) k
    by_cases he : bt E k = true
    · rw [if_pos ((shr_b E (by omega)).mpr he), chain_L hE, Option.bind_some, around_L, Option.bind_some]
      have nb1 := near_iff (b := b) hb hE he
      have nw1 := near_iff (b := w) hw hE he
      unfold fL_score_94 fL_score_117
      by_cases hzb : (ar (fl (pt k) E) &&& b) = 0
      · have fb : bt (near b E) k = false := by
          cases q : bt (near b E) k
          · rfl
          · exact absurd hzb (nb1.mp q)
        rw [fb] at tb tw
        rw [if_pos hzb]
        by_cases hzw : (ar (fl (pt k) E) &&& w) = 0
        · have fw : bt (near w E) k = false := by
            cases q : bt (near w E) k
            · rfl
            · exact absurd hzw (nw1.mp q)
          rw [fw] at tb tw
          rw [if_pos hzw]
          refine go _ ?_
          rw [s1, s2, tb, tw, Int32.add_zero]
          simp
        · rw [if_neg hzw, if_pos hzb]
          have fw : bt (near w E) k = true := nw1.mpr hzw
          rw [fw] at tb tw
          have t1 : (if bt (terr b w E) k = true then 1 else 0) = (0 : Nat) := by rw [tb]; simp [he]
          have t2 : (if bt (terr w b E) k = true then 1 else 0) = (1 : Nat) := by rw [tw]; simp [he]
          rw [t1] at s1
          rw [t2] at s2
          refine go _ ?_
          rw [show (-1 : Int32) = Int32.ofInt (-1) by decide, zadd, s1, s2]
          exact congrArg Int32.ofInt (by omega)
      · have fb : bt (near b E) k = true := nb1.mpr hzb
        rw [fb] at tb tw
        rw [if_neg hzb]
        by_cases hzw : (ar (fl (pt k) E) &&& w) = 0
        · have fw : bt (near w E) k = false := by
            cases q : bt (near w E) k
            · rfl
            · exact absurd hzw (nw1.mp q)
          rw [fw] at tb tw
          rw [if_pos hzw]
          have t1 : (if bt (terr b w E) k = true then 1 else 0) = (1 : Nat) := by rw [tb]; simp [he]
          have t2 : (if bt (terr w b E) k = true then 1 else 0) = (0 : Nat) := by rw [tw]; simp [he]
          rw [t1] at s1
          rw [t2] at s2
          refine go _ ?_
          rw [show (1 : Int32) = Int32.ofInt 1 by decide, zadd, s1, s2]
          exact congrArg Int32.ofInt (by omega)
        · have fw : bt (near w E) k = true := nw1.mpr hzw
          rw [fw] at tb tw
          rw [if_neg hzw, if_neg hzw, if_neg hzb]
          refine go _ ?_
          rw [s1, s2, tb, tw, Int32.add_zero]
          simp
    · rw [if_neg (fun e => he ((shr_b E (by omega)).mp e))]
      have f0 : ∀ v : Int64, bt (near v E) k = false := fun v => by
        cases q : bt (near v E) k
        · rfl
        · exact absurd (fl_sb hE k q) he
      rw [f0, f0] at tb tw
      refine go _ ?_
      rw [s1, s2, tb, tw]
      simp
theorem score_L {x : BW} (h : OKB x) {hc : Nat} (hh : hc < 1000) : fL_score x.1 x.2 (nI hc) = some (Int32.ofInt (sco x - if hc = 0 then 6 else 0)) := by
  have hE : inA (emp x) := inA_emp _ _
  have tA : ∀ b w : Int64, inA (terr b w (emp x)) := fun b w => inA_sb (inA_fl hE) (fun i hi => by
    unfold terr at hi
    rw [bt_and, Bool.and_eq_true] at hi
    exact hi.1)
  have key : ∀ q : Int, fL_score_20 x.1 x.2 (nI (cnt x.1) - nI (cnt x.2)) (Int32.ofInt q) = some (Int32.ofInt (sco x - q)) := fun q => by
    unfold fL_score_20
    rw [zi, zi, zsub, zsub]
    have h1 := score_39 h.1 h.2.1 hE ((cnt x.1 : Int) - cnt x.2 - q) 49 FU 0 rfl (FU_lt (by omega))
    rw [show ((cnt x.1 : Int) - cnt x.2 - q + (cpr (terr x.1 x.2 (emp x)) 0 : Nat) - (cpr (terr x.2 x.1 (emp x)) 0 : Nat)) = (cnt x.1 : Int) - cnt x.2 - q by simp [cpr]] at h1
    refine h1.trans ?_
    rw [cnt_cpr (tA _ _), cnt_cpr (tA _ _)]
    unfold sco
    congr 2
    omega
  unfold fL_score
  rw [bits_L h.1, Option.bind_some, bits_L h.2.1, Option.bind_some]
  by_cases h0 : hc = 0
  · subst h0
    rw [if_pos rfl, if_pos (show nI 0 = (0 : Int32) by decide)]
    exact key 6
  · rw [if_neg (nI_ne0 (by omega) (by omega)), if_neg h0]
    exact key 0
