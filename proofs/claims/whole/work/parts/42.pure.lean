/-! PURE 3: dead chains, a stone put. -/
def fr (c b w : Int64) : Int64 := ar c &&& ((b ||| w) ^^^ (-1))
theorem free_X9 (c b w : Int64) : fX9_free c b w = some (fr c b w) := by
  unfold fX9_free; rw [ar_X9]; rfl
theorem lib_X0 (c s : Int64) : fX0_libertiesOf c s = some (ar c &&& (s ^^^ (-1))) := rfl
theorem bt_fr {c b w : Int64} (i : Nat) : bt (fr c b w) i = (bt (ar c) i && (!bt b i && !bt w i)) := by
  unfold fr
  rw [bt_and, bt_not, bt_or]
  cases h : bt (ar c) i
  · rfl
  · have : i < 64 := by have := lt49 (inA_ar c) h; omega
    cases bt b i <;> cases bt w i <;> simp [this]
theorem dead_loop {st b w : Int64} (hst : inA st) : ∀ (n : Nat) (left out : Int64), sb left st → (∀ p, bt left p = true → sb (fl (pt p) st) left) → cnt left < n →
    (∀ i, bt out i = true ↔ (bt st i = true ∧ ¬ bt left i = true ∧ fr (fl (pt i) st) b w = 0)) → ∃ R, fX9_dead_6 n st b w left out = some R ∧ ∀ i, bt R i = true ↔ (bt st i = true ∧ fr (fl (pt i) st) b w = 0) := by
  intro n
  induction n with
  | zero => intro left out _ _ h; omega
  | succ n ih =>
    intro left out hs hc hn ho
    rw [fX9_dead_6]
    by_cases h0 : left = 0
    · subst h0
      rw [if_pos rfl]
      exact ⟨out, rfl, fun i => by rw [ho i, bt_0]; simp⟩
    · rw [if_neg h0]
      obtain ⟨m, hm, h1, h2, h3⟩ := low_ex h0
      have hmst := hs m h1
      rw [low_1 hm h1 h2 h3, fl_X9 hst, Option.bind_some, free_X9, Option.bind_some]
      have hlb : ∀ i, bt (left &&& (fl (pt m) st ^^^ (-1))) i = true ↔ (bt left i = true ∧ ¬ bt (fl (pt m) st) i = true) := fun i => by
        rw [bt_and, bt_not]
        by_cases hi : i < 64
        · simp [hi]
        · rw [bt_big (w := left) (by omega)]; simp
      have hs' : sb (left &&& (fl (pt m) st ^^^ (-1))) st := sb_tr (and_sb_l _ _) hs
      have hmC : bt (fl (pt m) st) m = true := fl_in hst hmst
      have hc' : ∀ p, bt (left &&& (fl (pt m) st ^^^ (-1))) p = true → sb (fl (pt p) st) (left &&& (fl (pt m) st ^^^ (-1))) := fun p hp i hi => by
        rw [hlb] at hp ⊢
        refine ⟨hc p hp.1 i hi, fun hz => hp.2 ?_⟩
        have e1 := fl_same hst (hs p hp.1) hi
        have e2 := fl_same hst hmst hz
        rw [← e2, e1]
        exact fl_in hst (hs p hp.1)
      have hcn : cnt (left &&& (fl (pt m) st ^^^ (-1))) < cnt left := cnt_lt (and_sb_l _ _) (fun e => by
        have h9 : bt (left &&& (fl (pt m) st ^^^ (-1))) m = true := by rw [e]; exact h1
        exact ((hlb m).mp h9).2 hmC)
      have hfin : ∀ s1 : Int64, (∀ i, bt s1 i = true ↔ (fr (fl (pt m) st) b w = 0 ∧ bt (fl (pt m) st) i = true)) → ∃ R, fX9_dead_57 (fX9_dead_6 n) st b w (left &&& (fl (pt m) st ^^^ (-1))) out s1 = some R ∧ ∀ i, bt R i = true ↔ (bt st i = true ∧ fr (fl (pt i) st) b w = 0) := by
        intro s1 hs1
        unfold fX9_dead_57
        refine ih _ _ hs' hc' (by omega) fun i => ?_
        rw [bt_or, Bool.or_eq_true, ho, hs1, hlb]
        by_cases hiC : bt (fl (pt m) st) i = true
        · have e := fl_same hst hmst hiC
          rw [e]
          constructor
          · rintro (⟨a, b, c⟩ | ⟨a, _⟩)
            · exact ⟨a, fun z => b z.1, c⟩
            · exact ⟨fl_sb hst i hiC, fun z => z.2 hiC, a⟩
          · rintro ⟨a, b, c⟩
            exact Or.inr ⟨c, hiC⟩
        · constructor
          · rintro (⟨a, b, c⟩ | ⟨_, a⟩)
            · exact ⟨a, fun z => b z.1, c⟩
            · exact absurd a hiC
          · rintro ⟨a, b, c⟩
            exact Or.inl ⟨a, fun z => b ⟨z, hiC⟩, c⟩
      by_cases hq : fr (fl (pt m) st) b w = 0
      · rw [if_pos hq]
        exact hfin _ fun i => ⟨fun h => ⟨hq, h⟩, fun h => h.2⟩
      · rw [if_neg hq]
        exact hfin _ fun i => ⟨fun h => by rw [bt_0] at h; cases h, fun h => absurd h.1 hq⟩
def dd (st b w : Int64) : Int64 := (fX9_dead st b w).getD 0
theorem dead_X9 {st b w : Int64} (hst : inA st) : fX9_dead st b w = some (dd st b w) ∧ ∀ i, bt (dd st b w) i = true ↔ (bt st i = true ∧ fr (fl (pt i) st) b w = 0) := by
  obtain ⟨R, h1, h2⟩ := dead_loop (b := b) (w := w) hst FU st 0 (sb_rf st) (fun p _ => fl_sb hst) (by have := cnt_64 st; unfold FU; omega) (fun i => by rw [bt_0]; simp)
  have h3 : fX9_dead st b w = some R := h1
  have h4 : dd st b w = R := by unfold dd; rw [h3]; rfl
  rw [h4]; exact ⟨h3, h2⟩
/-- the other side's chains that have a liberty -/
def alv (own oth : Int64) : Int64 := fl (ar ((562949953421311 : Int64) &&& ((own ||| oth) ^^^ (-1)))) oth
theorem bt_emp (own oth : Int64) (i : Nat) : bt ((562949953421311 : Int64) &&& ((own ||| oth) ^^^ (-1))) i = true ↔ (i < 49 ∧ ¬ bt own i = true ∧ ¬ bt oth i = true) := by
  rw [bt_and, bt_not, bt_or]
  by_cases hi : i < 64
  · rw [bt_ALL i hi]; simp [hi]
  · rw [bt_big (by omega)]; simp; omega
theorem inA_emp (own oth : Int64) : inA ((562949953421311 : Int64) &&& ((own ||| oth) ^^^ (-1))) := inA_and_l inA_ALL
theorem inA_alv {own oth : Int64} (h : inA oth) : inA (alv own oth) := inA_fl h
theorem bt_alv {own oth : Int64} (ho : inA oth) (i : Nat) : bt (alv own oth) i = true ↔ (bt oth i = true ∧ ¬ fr (fl (pt i) oth) own oth = 0) := by
  unfold alv
  rw [fl_un ho]
  constructor
  · rintro ⟨p, h1, h2, h3⟩
    have e := fl_same ho h2 h3
    refine ⟨fl_sb ho i h3, ?_⟩
    rw [e, ne0_iff]
    obtain ⟨j, hj, hn⟩ := (bt_ar (inA_emp own oth) (lt49 ho h2)).mp h1
    obtain ⟨hj9, hj1, hj2⟩ := (bt_emp own oth j).mp hj
    refine ⟨j, ?_⟩
    rw [bt_fr, (bt_ar (inA_fl ho) hj9).mpr ⟨p, fl_in ho h2, by rw [nb_sym]; exact hn⟩]
    simp [hj1, hj2]
  · rintro ⟨h1, h2⟩
    rw [ne0_iff] at h2
    obtain ⟨j, hj⟩ := h2
    rw [bt_fr, Bool.and_eq_true, Bool.and_eq_true, Bool.not_eq_true', Bool.not_eq_true'] at hj
    have hj9 := lt49 (inA_ar _) hj.1
    obtain ⟨p, hp, hn⟩ := (bt_ar (inA_fl ho) hj9).mp hj.1
    have hpo := fl_sb ho p hp
    refine ⟨p, ?_, hpo, fl_back ho h1 hp⟩
    exact (bt_ar (inA_emp own oth) (lt49 ho hpo)).mpr ⟨j, (bt_emp own oth j).mpr ⟨hj9, by rw [hj.2.1]; decide, by rw [hj.2.2]; decide⟩, by rw [nb_sym]; exact hn⟩
theorem alv_dd {own oth : Int64} (ho : inA oth) : oth &&& (dd oth own oth ^^^ (-1)) = alv own oth := by
  refine sb_eq (fun i hi => ?_) (fun i hi => ?_)
  · rw [bt_and, bt_not, Bool.and_eq_true, Bool.and_eq_true, Bool.not_eq_true'] at hi
    rw [bt_alv ho]
    refine ⟨hi.1, fun hz => ?_⟩
    rw [((dead_X9 ho).2 i).mpr ⟨hi.1, hz⟩] at hi
    exact absurd hi.2.2 (by decide)
  · obtain ⟨h1, h2⟩ := (bt_alv ho i).mp hi
    have h9 := lt49 ho h1
    rw [bt_and, bt_not, h1]
    have : bt (dd oth own oth) i = false := by
      cases hd : bt (dd oth own oth) i
      · rfl
      · exact absurd (((dead_X9 ho).2 i).mp hd).2 h2
    rw [this]; simp; omega
/-- a stone that would have no liberty -/
def sui (own oth : Int64) (p : Nat) : Bool := decide (fr (fl (pt p) own) own (alv own oth) = 0)
def ownOf (b w : Int64) (c : Int32) : Int64 := if c = 0 then b else w
def othOf (b w : Int64) (c : Int32) : Int64 := if c = 0 then w else b
def putO (b w : Int64) (c : Int32) (p : Nat) : Int64 := ownOf b w c ||| pt p
def putA (b w : Int64) (c : Int32) (p : Nat) : Int64 := alv (putO b w c p) (othOf b w c)
def putS (S : MS) (b w : Int64) (c : Int32) (p : Nat) : MS :=
  ms_j (ms_j (ms_i (ms_i S 27 (nI (cnt (dd (othOf b w c) (putO b w c p) (othOf b w c))))) 28 (bi (sui (putO b w c p) (othOf b w c) p))) 25 (if c = 0 then putO b w c p else putA b w c p)) 26 (if c = 0 then putA b w c p else putO b w c p)
theorem inA_own {b w : Int64} {c : Int32} (hb : inA b) (hw : inA w) : inA (ownOf b w c) := by unfold ownOf; split <;> assumption
theorem inA_oth {b w : Int64} {c : Int32} (hb : inA b) (hw : inA w) : inA (othOf b w c) := by unfold othOf; split <;> assumption
theorem inA_putO {b w : Int64} {c : Int32} {p : Nat} (hb : inA b) (hw : inA w) (hp : p < 49) : inA (putO b w c p) := inA_or (inA_own hb hw) (inA_pt hp)
theorem inA_putA {b w : Int64} {c : Int32} {p : Nat} (hb : inA b) (hw : inA w) : inA (putA b w c p) := inA_alv (inA_oth hb hw)
theorem xbool_bi (b : Bool) : xbool (bi b) = some b := by cases b <;> rfl
theorem xbool_1 : xbool 1 = some true := rfl
theorem xbool_0 : xbool 0 = some false := rfl
theorem puts_X9 (S : MS) {b w : Int64} (c : Int32) {p : Nat} (hb : inA b) (hw : inA w) (hp : p < 49) : fX9_puts S b w c (nI p) = some (putS S b w c p) := by
  have ho : inA (othOf b w c) := inA_oth hb hw
  have hO : inA (putO b w c p) := inA_putO hb hw hp
  have e28 : ∀ own oth : Int64, inA own → inA oth → fX9_puts_28 S c (nI p) own oth = some (ms_j (ms_j (ms_i (ms_i S 27 (nI (cnt (dd oth own oth)))) 28 (bi (sui own oth p))) 25 (if c = 0 then own else alv own oth)) 26 (if c = 0 then alv own oth else own)) := by
    intro own oth h1 h2
    unfold fX9_puts_28
    rw [(dead_X9 h2).1, Option.bind_some, bits_X9, Option.bind_some, bit_X9, Option.bind_some, fl_X9 h1, Option.bind_some, free_X9, Option.bind_some, alv_dd h2]
    by_cases hz : fr (fl (pt p) own) own (alv own oth) = 0
    · rw [if_pos hz]
      have hs : sui own oth p = true := by unfold sui; simp [hz]
      rw [hs]
      unfold fX9_puts_89 fX9_puts_105 fX9_puts_121
      rw [xbool_1, Option.bind_some]
      by_cases h0 : c = 0 <;> simp [h0]
    · rw [if_neg hz]
      have hs : sui own oth p = false := by unfold sui; simp [hz]
      rw [hs]
      unfold fX9_puts_89 fX9_puts_105 fX9_puts_121
      rw [xbool_0, Option.bind_some]
      by_cases h0 : c = 0 <;> simp [h0]
  unfold fX9_puts fX9_puts_10
  simp only [bit_X9, Option.bind_some]
  by_cases h0 : c = 0
  · have e1 : putO b w c p = b ||| pt p := by simp [putO, ownOf, h0]
    have e2 : othOf b w c = w := by simp [othOf, h0]
    rw [if_pos h0, if_pos h0, e28 _ _ (by rw [← e1]; exact hO) hw]
    simp only [putS, putA, e1, e2]
  · have e1 : putO b w c p = w ||| pt p := by simp [putO, ownOf, h0]
    have e2 : othOf b w c = b := by simp [othOf, h0]
    rw [if_neg h0, if_neg h0, e28 _ _ (by rw [← e1]; exact hO) hb]
    simp only [putS, putA, e1, e2]
theorem left_X0 {own oth : Int64} {p : Nat} (hp : p < 49) (h1 : inA own) (h2 : inA oth) : fX0_leftBehind own oth (pt p) = some (if ((own ||| oth) &&& pt p) = 0 then (if sui (own ||| pt p) oth p = true then -1 else alv (own ||| pt p) oth) else -1) := by
  have hO : inA (own ||| pt p) := inA_or h1 (inA_pt hp)
  unfold fX0_leftBehind
  by_cases he : ((own ||| oth) &&& pt p) = 0
  · rw [if_pos he, if_pos he, ar_X0, Option.bind_some, (fl_X0 h2).1, Option.bind_some, (fl_X0 hO).1, Option.bind_some, lib_X0, Option.bind_some]
    have e : (ar (fl (pt p) (own ||| pt p)) &&& (((own ||| pt p) ||| alv (own ||| pt p) oth) ^^^ (-1)) = 0) ↔ sui (own ||| pt p) oth p = true := by unfold sui fr; simp
    by_cases hz : sui (own ||| pt p) oth p = true
    · rw [if_pos (e.mpr hz), if_pos hz]
    · rw [if_neg (fun h => hz (e.mp h)), if_neg hz]; rfl
  · rw [if_neg he, if_neg he]
