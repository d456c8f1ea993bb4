/-! PURE 37: the start. -/
def msZ : MS := (fun _ => 0, fun _ => 0, fun _ _ => 0, fun _ _ => 0)
/-- the heap behind the constructor -/
def hI0 (h : TH) : TH := s_R (s_N (s_R (s_N (s_R (s_N (s_N (s_N h 7 2) 2 0) 9 8) (t_sz h + 1) 0 (some (t_sz h + 2))) 12 16) (t_sz h + 1) 2 (some (t_sz h + 3))) 12 16) (t_sz h + 1) 4 (some (t_sz h + 4))
def hI1 (h : TH) : TH := s_R (s_R (s_N (s_R (s_N (s_N (s_R (hI0 h) (t_sz h) 0 (some (t_sz h + 1))) 5 0) 13 60) (t_sz h + 5) 0 (some (t_sz h + 6))) 13 60) (t_sz h + 5) 1 (some (t_sz h + 7))) (t_sz h) 1 (some (t_sz h + 5))
theorem init_2 {h : TH} : fX2_init (s_N (s_N h 7 2) 2 0) (t_sz h + 1) = some (hI0 h) := by
  unfold fX2_init
  rw [if_pos (by simp [kd_sI, kd_sJ, kd_sR, kd_sN, ln_sI, ln_sJ, ln_sR, ln_sN, sz_sI, sz_sJ, sz_sR, sz_sN, I_sI, I_sJ, I_sR, I_sN, J_sI, J_sJ, J_sR, J_sN, R_sI, R_sJ, R_sR, R_sN]), if_pos (by simp [kd_sI, kd_sJ, kd_sR, kd_sN, ln_sI, ln_sJ, ln_sR, ln_sN, sz_sI, sz_sJ, sz_sR, sz_sN, I_sI, I_sJ, I_sR, I_sN, J_sI, J_sJ, J_sR, J_sN, R_sI, R_sJ, R_sR, R_sN]), if_pos (by simp [kd_sI, kd_sJ, kd_sR, kd_sN, ln_sI, ln_sJ, ln_sR, ln_sN, sz_sI, sz_sJ, sz_sR, sz_sN, I_sI, I_sJ, I_sR, I_sN, J_sI, J_sJ, J_sR, J_sN, R_sI, R_sJ, R_sR, R_sN])]
  rfl
theorem init_8 {h : TH} : fX8_init (s_N h 7 2) (t_sz h) = some (hI1 h) := by
  unfold fX8_init fX6_init
  have e : fX2_init (s_N (s_N h 7 2) 2 0) (t_sz (s_N h 7 2)) = some (hI0 h) := init_2
  rw [e, Option.bind_some, if_pos (by unfold hI0; simp [kd_sI, kd_sJ, kd_sR, kd_sN, ln_sI, ln_sJ, ln_sR, ln_sN, sz_sI, sz_sJ, sz_sR, sz_sN, I_sI, I_sJ, I_sR, I_sN, J_sI, J_sJ, J_sR, J_sN, R_sI, R_sJ, R_sR, R_sN, Nat.add_assoc]), if_pos (by unfold hI0; simp [kd_sI, kd_sJ, kd_sR, kd_sN, ln_sI, ln_sJ, ln_sR, ln_sN, sz_sI, sz_sJ, sz_sR, sz_sN, I_sI, I_sJ, I_sR, I_sN, J_sI, J_sJ, J_sR, J_sN, R_sI, R_sJ, R_sR, R_sN, Nat.add_assoc]), if_pos (by unfold hI0; simp [kd_sI, kd_sJ, kd_sR, kd_sN, ln_sI, ln_sJ, ln_sR, ln_sN, sz_sI, sz_sJ, sz_sR, sz_sN, I_sI, I_sJ, I_sR, I_sN, J_sI, J_sJ, J_sR, J_sN, R_sI, R_sJ, R_sR, R_sN, Nat.add_assoc]), Option.bind_some, if_pos (by unfold hI0; simp [kd_sI, kd_sJ, kd_sR, kd_sN, ln_sI, ln_sJ, ln_sR, ln_sN, sz_sI, sz_sJ, sz_sR, sz_sN, I_sI, I_sJ, I_sR, I_sN, J_sI, J_sJ, J_sR, J_sN, R_sI, R_sJ, R_sR, R_sN, Nat.add_assoc])]
  rfl
theorem init_ok {h : TH} : ∃ hI, fX8_init (s_N h 7 2) (t_sz h) = some hI ∧ t_sz hI = t_sz h + 8 ∧
    (∀ a, t_kd hI a = if a = t_sz h then 7 else if a = t_sz h + 1 then 2 else if a = t_sz h + 2 then 9 else if a = t_sz h + 3 then 12 else if a = t_sz h + 4 then 12 else if a = t_sz h + 5 then 5 else if a = t_sz h + 6 then 13 else if a = t_sz h + 7 then 13 else t_kd h a) ∧
    t_ln hI (t_sz h + 2) = 8 ∧ t_ln hI (t_sz h + 3) = 16 ∧ t_ln hI (t_sz h + 4) = 16 ∧ t_ln hI (t_sz h + 6) = 60 ∧ t_ln hI (t_sz h + 7) = 60 ∧
    t_R hI (t_sz h) 0 = some (t_sz h + 1) ∧ t_R hI (t_sz h) 1 = some (t_sz h + 5) ∧ t_R hI (t_sz h + 1) 0 = some (t_sz h + 2) ∧ t_R hI (t_sz h + 1) 2 = some (t_sz h + 3) ∧ t_R hI (t_sz h + 1) 4 = some (t_sz h + 4) ∧ t_R hI (t_sz h + 5) 0 = some (t_sz h + 6) ∧ t_R hI (t_sz h + 5) 1 = some (t_sz h + 7) ∧
    (∀ i, t_R hI (t_sz h + 3) i = none) ∧ (∀ i, t_R hI (t_sz h + 6) i = none) ∧ t_I hI (t_sz h + 1) 1 = 0 ∧ t_I hI (t_sz h + 1) 3 = 0 ∧ t_I hI (t_sz h + 1) 5 = 0 ∧ t_I hI (t_sz h + 5) 2 = 0 := by
  refine ⟨hI1 h, init_8, rfl, fun a => ?_, ?_, ?_, ?_, ?_, ?_, ?_, ?_, ?_, ?_, ?_, ?_, ?_, fun i => ?_, fun i => ?_, ?_, ?_, ?_, ?_⟩
  · unfold hI1 hI0
    simp only [kd_sI, kd_sJ, kd_sR, kd_sN, ln_sI, ln_sJ, ln_sR, ln_sN, sz_sI, sz_sJ, sz_sR, sz_sN, I_sI, I_sJ, I_sR, I_sN, J_sI, J_sJ, J_sR, J_sN, R_sI, R_sJ, R_sR, R_sN, Nat.add_assoc, Nat.reduceAdd]
    by_cases h0 : a = t_sz h
    · subst h0; simp
    · by_cases h1 : a = t_sz h + 1
      · subst h1; simp
      · by_cases h2 : a = t_sz h + 2
        · subst h2; simp
        · by_cases h3 : a = t_sz h + 3
          · subst h3; simp
          · by_cases h4 : a = t_sz h + 4
            · subst h4; simp
            · by_cases h5 : a = t_sz h + 5
              · subst h5; simp
              · by_cases h6 : a = t_sz h + 6
                · subst h6; simp
                · simp only [h0, h1, h2, h3, h4, h5, h6, if_false]
  all_goals (unfold hI1 hI0; simp [kd_sI, kd_sJ, kd_sR, kd_sN, ln_sI, ln_sJ, ln_sR, ln_sN, sz_sI, sz_sJ, sz_sR, sz_sN, I_sI, I_sJ, I_sR, I_sN, J_sI, J_sJ, J_sR, J_sN, R_sI, R_sJ, R_sR, R_sN]; try omega)
theorem start_ok {h : TH} (hz : ∀ a, t_sz h ≤ a → t_kd h a = 0) (mo : Nat) (hmo : t_sz h + 8 = mo) (hlow : ∀ a, a < t_sz h → t_kd h a = 0) : RR mo (t_sz h) 0 (mo + 11, (hI1 h).2) msZ := by
  obtain ⟨hI, e, sz, kd, l2, l3, l4, l6, l7, q0, q1, q2, q3, q4, q5, q6, n3, n6, i1, i3, i5, i2⟩ := init_ok (h := h)
  have e2 : hI = hI1 h := by rw [init_8] at e; cases e; rfl
  subst e2
  have k : ∀ j, j < 8 → t_kd (hI1 h) (t_sz h + j) = [7, 2, 9, 12, 12, 5, 13, 13].getD j 0 := fun j hj => by
    rw [kd]
    have : j = 0 ∨ j = 1 ∨ j = 2 ∨ j = 3 ∨ j = 4 ∨ j = 5 ∨ j = 6 ∨ j = 7 := by omega
    rcases this with rfl | rfl | rfl | rfl | rfl | rfl | rfl | rfl <;> simp
  have kz : ∀ a, t_sz h + 8 ≤ a → t_kd (hI1 h) a = 0 := fun a ha => by
    rw [kd, if_neg (by omega), if_neg (by omega), if_neg (by omega), if_neg (by omega), if_neg (by omega), if_neg (by omega), if_neg (by omega), if_neg (by omega)]
    exact hz a (by omega)
  refine ⟨t_sz h + 1, t_sz h + 5, 0, 0, 0, 0, fun _ => 0, fun _ => 0, fun _ => [], fun _ => [], [], fun _ => true, Nat.le_refl _, ⟨k 0 (by omega), q0, q1, ⟨k 1 (by omega), ⟨q2, k 2 (by omega), l2⟩, ⟨q3, k 3 (by omega), l3⟩, q4, k 4 (by omega), l4⟩, k 5 (by omega), ⟨q5, k 6 (by omega), l6⟩, q6, k 7 (by omega), l7⟩, ⟨by omega, i1, rfl, fun a ha => by omega⟩, ⟨by omega, i3, rfl, fun i _ => (n3 i).trans (by simp), fun i j hi => by omega, fun i hi => by omega⟩, ⟨fun j g hj => by simp at hj, by simp, rfl, List.nodup_nil, fun g hg => by simp at hg, fun g hg => by omega, i5, fun j g hj => by simp at hj, fun g hg => by simp at hg, fun i hi => by omega, fun b hb => by rw [if_neg (by omega)]; rfl⟩, ⟨by omega, i2, rfl, fun i _ => (n6 i).trans (by simp), fun i j hi => by omega, fun i j hi => by omega, fun i hi => by omega⟩, ⟨rfl, fun i hi => by omega, ⟨fun i _ _ => ⟨rfl, rfl, rfl, rfl⟩, fun i k _ _ _ => rfl⟩⟩, ⟨Nat.le_refl _, fun a ha => ha.elim (fun h1 => by show t_kd (hI1 h) a = 0; rw [kd, if_neg (by omega), if_neg (by omega), if_neg (by omega), if_neg (by omega), if_neg (by omega), if_neg (by omega), if_neg (by omega), if_neg (by omega)]; exact hlow a (by omega)) (fun h1 => kz a (by omega)), fun a ha => kz a (by have : mo + 11 ≤ a := ha; omega)⟩⟩
