/-! PURE 36: the child of a node by its move. -/
def chF (S : MS) (pr : Nat) (v : Int32) : Nat → Int32
  | 0 => -1
  | i + 1 => if m_I S 28 i = nI pr ∧ m_I S 30 i = v then nI i else chF S pr v i
theorem chF_s {S : MS} {pr : Nat} {v : Int32} : ∀ i, (∃ k, k < i ∧ m_I S 28 k = nI pr ∧ m_I S 30 k = v ∧ chF S pr v i = nI k) ∨ ((∀ k, k < i → ¬ (m_I S 28 k = nI pr ∧ m_I S 30 k = v)) ∧ chF S pr v i = -1) := by
  intro i
  induction i with
  | zero => exact Or.inr ⟨fun k hk => by omega, rfl⟩
  | succ i ih =>
    unfold chF
    by_cases e : m_I S 28 i = nI pr ∧ m_I S 30 i = v
    · rw [if_pos e]; exact Or.inl ⟨i, by omega, e.1, e.2, rfl⟩
    · rw [if_neg e]
      rcases ih with ⟨k, h1, h2⟩ | ⟨h1, h2⟩
      · exact Or.inl ⟨k, by omega, h2⟩
      · refine Or.inr ⟨fun k hk => ?_, h2⟩
        by_cases q : k = i
        · subst q; exact e
        · exact h1 k (by omega)
theorem child_5 {S : MS} {N pr : Nat} {v : Int32} (hN : N ≤ 60) (h36 : m_i S 36 = nI N) : ∀ (d fu i : Nat), i + d = N → d < fu → fX9_child_5 fu S (nI pr) v (chF S pr v i) (nI i) = some (chF S pr v N) := by
  intro d
  induction d with
  | zero =>
    intro fu i hi hf
    obtain ⟨fu, rfl⟩ : ∃ j, fu = j + 1 := ⟨fu - 1, by omega⟩
    rw [fX9_child_5, h36, if_pos (nI_le (by omega) (by omega)), show i = N by omega]
  | succ d ih =>
    intro fu i hi hf
    obtain ⟨fu, rfl⟩ : ∃ j, fu = j + 1 := ⟨fu - 1, by omega⟩
    have := ih fu (i + 1) (by omega) (by omega)
    rw [show chF S pr v (i + 1) = (if m_I S 28 i = nI pr ∧ m_I S 30 i = v then nI i else chF S pr v i) from rfl] at this
    rw [fX9_child_5, h36, if_neg (nI_ge (by omega) (by omega)), if_pos (xin_nI (by omega) (by omega)), clp (by omega)]
    unfold fX9_child_42
    rw [nI_1]
    by_cases e1 : m_I S 28 i = nI pr
    · rw [if_pos e1]
      by_cases e2 : m_I S 30 i = v
      · rw [if_pos e2]; rw [if_pos ⟨e1, e2⟩] at this; exact this
      · rw [if_neg e2]; rw [if_neg (fun z => e2 z.2)] at this; exact this
    · rw [if_neg e1]; rw [if_neg (fun z => e1 z.1)] at this; exact this
section CHILD
variable {u mo : Nat} {h : TH} {S : MS} {t c s n G N P : Nat} {gm nd : Nat → Nat} {gl nl : Nat → List BW} {ol : List Nat} {kp : Nat → Bool}
theorem child_X9 (H : Rel u mo h S t c s n G N P gm nd gl nl ol kp) (pr : Nat) (v : Int32) : fX9_child S (nI pr) v = some (chF S pr v N) := child_5 H.N60 H.2.2.2.2.1.2.2.1 N FU 0 (by omega) (by have := H.N60; unfold FU; omega)
theorem par_iff (H : Rel u mo h S t c s n G N P gm nd gl nl ol kp) {k pr : Nat} (hk : k < N) (hp : pr < N) : t_R h (nd k) 3 = some (nd pr) ↔ m_I S 28 k = nI pr := by
  have h60 := H.N60
  obtain ⟨-, -, -, -, -, -, rt, g, -, -, -, -, -, -, -, -, -, d⟩ := H.nm hk
  rcases d with ⟨-, d2, d3, -⟩ | ⟨p2, d1, d2, -, d3, -⟩
  · rw [d2, d3]
    constructor
    · intro e; cases e
    · intro e; exact absurd e.symm (nI_nm1 (by omega))
  · rw [d2, d3]
    constructor
    · intro e
      have := H.2.2.2.2.1.2.2.2.2.1 p2 pr (by omega) hp (Option.some.inj e)
      rw [this]
    · intro e
      rw [(nI_eq (by omega) (by omega)).mp e]
theorem childOf_2 (H : Rel u mo h S t c s n G N P gm nd gl nl ol kp) {pr : Nat} (hp : pr < N) (v : Int32) : ∀ (d fu i : Nat), i + d = 60 → d < fu → (∃ k, i ≤ k ∧ k < N ∧ m_I S 28 k = nI pr ∧ m_I S 30 k = v ∧ fX6_childOf_2 fu h s (some (nd pr)) v (nI i) = some (some (nd k))) ∨ ((∀ k, i ≤ k → k < N → ¬ (m_I S 28 k = nI pr ∧ m_I S 30 k = v)) ∧ fX6_childOf_2 fu h s (some (nd pr)) v (nI i) = some none) := by
  have h60 := H.N60
  have hk5 : t_kd h s = 5 := H.1.2.2.2.2.1
  obtain ⟨r0, r13, r60⟩ := H.1.2.2.2.2.2.1
  have hrow := H.2.2.2.2.1.2.2.2.1
  intro d
  induction d with
  | zero =>
    intro fu i hi hf
    obtain ⟨fu, rfl⟩ : ∃ j, fu = j + 1 := ⟨fu - 1, by omega⟩
    right
    rw [fX6_childOf_2, if_pos hk5, r0, Option.bind_some, if_pos r13, r60, if_pos (nI_le (by omega) (by omega))]
    exact ⟨fun k a b => by omega, rfl⟩
  | succ d ih =>
    intro fu i hi hf
    obtain ⟨fu, rfl⟩ : ∃ j, fu = j + 1 := ⟨fu - 1, by omega⟩
    have nx := ih fu (i + 1) (by omega) (by omega)
    rw [fX6_childOf_2, if_pos hk5, r0, Option.bind_some, if_pos r13, r60, if_neg (nI_ge (by omega) (by omega)), if_pos (xin_nI (by omega) (by omega)), clp (by omega), hrow i (by omega)]
    unfold fX6_childOf_45
    rw [nI_1]
    have go : ¬ (i < N ∧ m_I S 28 i = nI pr ∧ m_I S 30 i = v) → (∃ k, i ≤ k ∧ k < N ∧ m_I S 28 k = nI pr ∧ m_I S 30 k = v ∧ fX6_childOf_2 fu h s (some (nd pr)) v (nI (i + 1)) = some (some (nd k))) ∨ ((∀ k, i ≤ k → k < N → ¬ (m_I S 28 k = nI pr ∧ m_I S 30 k = v)) ∧ fX6_childOf_2 fu h s (some (nd pr)) v (nI (i + 1)) = some none) := fun hno => by
      rcases nx with ⟨k, b1, b2⟩ | ⟨b1, b2⟩
      · exact Or.inl ⟨k, by omega, b2⟩
      · refine Or.inr ⟨fun k c1 c2 c3 => ?_, b2⟩
        by_cases q : k = i
        · subst q; exact hno ⟨c2, c3⟩
        · exact b1 k (by omega) c2 c3
    by_cases hiN : i < N
    · have hn := H.nm hiN
      rw [if_pos hiN, if_neg (by simp), Option.bind_some, if_pos hn.1, hn.2.2.1]
      by_cases e1 : m_I S 28 i = nI pr
      · rw [if_pos ((par_iff H hiN hp).mpr e1)]
        by_cases e2 : m_I S 30 i = v
        · rw [if_pos e2]; exact Or.inl ⟨i, Nat.le_refl _, hiN, e1, e2, rfl⟩
        · rw [if_neg e2]; exact go (fun z => e2 z.2.2)
      · rw [if_neg (fun z => e1 ((par_iff H hiN hp).mp z))]; exact go (fun z => e1 z.2.1)
    · rw [if_neg hiN, if_pos rfl]; exact go (fun z => hiN z.1)
/-- both find the same child -/
theorem child_ok (H : Rel u mo h S t c s n G N P gm nd gl nl ol kp) {pr : Nat} (hp : pr < N) (v : Int32) : (∃ k, k < N ∧ m_I S 28 k = nI pr ∧ m_I S 30 k = v ∧ fX6_childOf h s (some (nd pr)) v = some (some (nd k)) ∧ fX9_child S (nI pr) v = some (nI k)) ∨ ((∀ k, k < N → ¬ (m_I S 28 k = nI pr ∧ m_I S 30 k = v)) ∧ fX6_childOf h s (some (nd pr)) v = some none ∧ fX9_child S (nI pr) v = some (-1)) := by
  have h1 := childOf_2 H hp v 60 FU 0 (by omega) (by unfold FU; omega)
  have h60 := H.N60
  rw [child_X9 H]
  rcases h1 with ⟨k, a1, a2, a3, a4, a5⟩ | ⟨a1, a2⟩
  · rcases chF_s (S := S) (pr := pr) (v := v) N with ⟨k2, b1, b2, b3, b4⟩ | ⟨b1, b2⟩
    · have : k2 = k := H.2.2.2.2.1.2.2.2.2.2.1 k2 k b1 a2 (by rw [b2]; exact nI_nm1 (by omega)) (b2.trans a3.symm) (b3.trans a4.symm)
      subst this
      exact Or.inl ⟨k2, a2, a3, a4, a5, by rw [b4]⟩
    · exact absurd ⟨a3, a4⟩ (b1 k a2)
  · rcases chF_s (S := S) (pr := pr) (v := v) N with ⟨k2, b1, b2, b3, b4⟩ | ⟨b1, b2⟩
    · exact absurd ⟨b2, b3⟩ (a1 k2 (by omega) b1)
    · exact Or.inr ⟨b1, a2, by rw [b2]⟩
end CHILD
