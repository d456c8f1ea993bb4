/-! The law's own methods that call the class, as predicates: what must hold for the method to come to its end with K. -/
abbrev ML_isDone : xM := (RL, cL_isDone, 21, (some .boolean), "isDone")
abbrev rmL_isDone : Room := { frames := 42, cells := 435, slots := 2610, locals := 2452 }
theorem ciL_isDone : Cond.code yL_isDone cL_isDone 21 (some .boolean) ∈ wt ∧ Cond.initialized yL_isDone.cls ∈ wt ∧ (yL_isDone.cls ≠ "java/lang/invoke/MethodHandle" ∧ yL_isDone.cls ≠ "java/lang/invoke/VarHandle" ∧ (parseMethodDescriptor yL_isDone.desc).map (fun d => d.parameters.length) = some 14) := ⟨wl4 (i := 70) rfl rfl, wl1 (i := 0) rfl rfl, by decide +kernel, by decide +kernel, by decide +kernel⟩
def gL_isDone_715 (lo t Ls : Nat) (xs : Nat → Int32) (K : Int32 → TH → MS → Prop) (h : TH) (L : MS) (a15 : Int32) (a16 : Int32) (a17 : Int32) (s5 : Int32) : Prop :=
  gL_isNode lo t Ls xs (fun v2 h3 L4 => (∃ b6, v2 = bi b6 ∧ K v2 h3 L4)) h L s5 a15 a16 a17
set_option maxHeartbeats 4000000 in
set_option maxRecDepth 100000 in
theorem wkL_isDone_715 {l : Launch} {g : xG} {x0 : xV} {b lo t Ls : Nat} {xs : Nat → Int32} {K : Int32 → TH → MS → Prop} {kc ks : Nat} (hl : l.stackTraces = false) (hb : b + 8 < lo) (hb0 : b < x0.1 ∧ x0.2 b = none) (h : TH) (L : MS) (a15 : Int32) (a16 : Int32) (a17 : Int32) (s5 : Int32) (hD : LDp lo h) (hc : kc + (125) ≤ 435 ∧ ks + (750) ≤ 2610) (hf : gL_isDone_715 lo t Ls xs K h L a15 a16 a17 s5) : AWG (XS b Ls xs) (zR rmL_isDone g lo x0 K) ML_isDone rmL_isDone l g x0 kc ks (LW g lo h L) 715 [(15, .int a15), (16, .int a16), (17, .int a17)] [.int s5, .ref (lo + 6), .ref (lo + 7), .ref (lo + 9), .ref (lo + 8), va_rf (some t)] := by
  rw [gL_isDone_715] at hf
  refine ag_iload 0 dL_isDone_715 rfl ?_
  refine ag_iload 1 dL_isDone_717 rfl ?_
  refine ag_iload 2 dL_isDone_719 rfl ?_
  refine ag_callR (fun s a c h => h) hb0 [va_rf (some t), .ref (lo + 8), .ref (lo + 9), .ref (lo + 7), .ref (lo + 6), .int s5, .int a15, .int a16, .int a17] 9 (ctL_isNode hl hb _ _ _ _ _ _ hD hf) ⟨wl4 (i := 108) rfl rfl, ciL_isNode⟩ (wl4 (i := 109) rfl rfl) dL_isDone_721 rfl rfl (Nat.le_of_ble_eq_true rfl) ⟨Nat.le_of_ble_eq_true rfl, Nat.le_of_ble_eq_true rfl⟩ ⟨show kc + 125 ≤ 435 by omega, show ks + 750 ≤ 2610 by omega⟩ (fun v2 h3 L4 hf hD5 => ?_)
  obtain ⟨b6, hb6, hf⟩ := hf
  exact agr_zret hD5 hf (by rw [hb6]; exact nar_b _) dL_isDone_724 rfl ⟨show kc + 125 + 0 ≤ 435 by omega, show ks + 750 + 0 ≤ 2610 by omega⟩
def gL_isDone_654 (lo t Ls : Nat) (xs : Nat → Int32) (K : Int32 → TH → MS → Prop) (h : TH) (L : MS) (s0 : Int32) (s1 : Int32) : Prop :=
  (if s0 = s1 then K (1 : Int32) h L else K (0 : Int32) h L)
set_option maxHeartbeats 4000000 in
set_option maxRecDepth 100000 in
theorem wkL_isDone_654 {l : Launch} {g : xG} {x0 : xV} {b lo t Ls : Nat} {xs : Nat → Int32} {K : Int32 → TH → MS → Prop} {kc ks : Nat} (hl : l.stackTraces = false) (hb : b + 8 < lo) (hb0 : b < x0.1 ∧ x0.2 b = none) (h : TH) (L : MS) (s0 : Int32) (s1 : Int32) (hD : LDp lo h) (hc : kc + (0) ≤ 435 ∧ ks + (0) ≤ 2610) (hf : gL_isDone_654 lo t Ls xs K h L s0 s1) : AWG (XS b Ls xs) (zR rmL_isDone g lo x0 K) ML_isDone rmL_isDone l g x0 kc ks (LW g lo h L) 654 [] [.int s1, .int s0] := by
  rw [gL_isDone_654] at hf
  refine ag_icmp_ne 661 dL_isDone_654 (by decide) (fun c1 => ?_) (fun c1 => ?_)
  · rw [if_neg c1] at hf
    refine ag_iconst (0 : Int32) dL_isDone_661 (by decide) ?_
    exact agr_zret hD hf rfl dL_isDone_662 rfl ⟨show kc + 0 ≤ 435 by omega, show ks + 0 ≤ 2610 by omega⟩
  · rw [if_pos c1] at hf
    refine ag_iconst (1 : Int32) dL_isDone_657 (by decide) ?_
    refine ag_goto 662 dL_isDone_658 (by decide) ?_
    exact agr_zret hD hf rfl dL_isDone_662 rfl ⟨show kc + 0 ≤ 435 by omega, show ks + 0 ≤ 2610 by omega⟩
def gL_isDone_607 (lo t Ls : Nat) (xs : Nat → Int32) (K : Int32 → TH → MS → Prop) (h : TH) (L : MS) (a18 : Int32) (a19 : Int32) : Prop :=
  gL_does lo t Ls xs (fun v2 h3 L4 => (if a18 = (m_I L4 7 (1 : Int32).toNatClampNeg) then gL_isDone_654 lo t Ls xs K h3 L4 v2 (-300 : Int32) else (if a19 = 0 then gL_isDone_654 lo t Ls xs K h3 L4 v2 (-100 : Int32) else (∃ q8, fL_off L4 = some q8 ∧ gL_isDone_654 lo t Ls xs K h3 q8.2 v2 q8.1)))) h L (5 : Int32) a18 (0 : Int32) (0 : Int32) (0 : Int32) (0 : Int32)
set_option maxHeartbeats 4000000 in
set_option maxRecDepth 100000 in
theorem wkL_isDone_607 {l : Launch} {g : xG} {x0 : xV} {b lo t Ls : Nat} {xs : Nat → Int32} {K : Int32 → TH → MS → Prop} {kc ks : Nat} (hl : l.stackTraces = false) (hb : b + 8 < lo) (hb0 : b < x0.1 ∧ x0.2 b = none) (h : TH) (L : MS) (a18 : Int32) (a19 : Int32) (hD : LDp lo h) (hc : kc + (125) ≤ 435 ∧ ks + (750) ≤ 2610) (hf : gL_isDone_607 lo t Ls xs K h L a18 a19) : AWG (XS b Ls xs) (zR rmL_isDone g lo x0 K) ML_isDone rmL_isDone l g x0 kc ks (LW g lo h L) 607 [(0, va_rf (some t)), (6, .ref (lo + 3)), (7, .ref (lo + 4)), (9, .ref (lo + 6)), (10, .ref (lo + 7)), (18, .int a18), (19, .int a19)] [] := by
  rw [gL_isDone_607] at hf
  refine ag_qload_n 0 dL_isDone_607 rfl ?_
  refine ag_iconst (5 : Int32) dL_isDone_608 (by decide) ?_
  refine ag_iload 5 dL_isDone_609 rfl ?_
  refine ag_iconst (0 : Int32) dL_isDone_611 (by decide) ?_
  refine ag_iconst (0 : Int32) dL_isDone_612 (by decide) ?_
  refine ag_iconst (0 : Int32) dL_isDone_613 (by decide) ?_
  refine ag_iconst (0 : Int32) dL_isDone_614 (by decide) ?_
  refine ag_callRH (fun s a c h => h.1) [va_rf (some t), .int (5 : Int32), .int a18, .int (0 : Int32), .int (0 : Int32), .int (0 : Int32), .int (0 : Int32)] 7 (ctL_does hl _ _ _ _ _ _ _ _ hD hf) ⟨wl1 (i := 129) rfl rfl, ciL_does⟩ (wl1 (i := 130) rfl rfl) dL_isDone_615 rfl rfl (Nat.le_of_ble_eq_true rfl) ⟨Nat.le_of_ble_eq_true rfl, Nat.le_of_ble_eq_true rfl⟩ ⟨show kc + 125 ≤ 435 by omega, show ks + 750 ≤ 2610 by omega⟩ (fun v2 h3 L4 hf hD5 => ?_)
  refine ag_iload 5 dL_isDone_618 rfl ?_
  refine ag_aload 4 dL_isDone_620 rfl ?_
  refine ag_iconst (1 : Int32) dL_isDone_622 (by decide) ?_
  refine ar_iald 7 5 hD5 rfl (by decide) (xin_v (by decide)) dL_isDone_623 ?_
  refine ag_icmp_ne 633 dL_isDone_624 (by decide) (fun c6 => ?_) (fun c6 => ?_)
  · rw [if_neg c6] at hf
    refine ag_iload 6 dL_isDone_633 rfl ?_
    refine ag_if_eq 652 dL_isDone_635 (by decide) (fun c7 => ?_) (fun c7 => ?_)
    · rw [if_pos c7] at hf
      refine ag_bipush (-100 : Int32) dL_isDone_652 (by decide) ?_
      refine ag_lv [] rfl ?_
      exact wkL_isDone_654 hl hb hb0 _ _ _ _ hD5 ⟨show kc + 125 + (0) ≤ 435 by omega, show ks + 750 + (0) ≤ 2610 by omega⟩ hf
    · rw [if_neg c7] at hf
      refine ag_aload 1 dL_isDone_638 rfl ?_
      refine ag_aload 2 dL_isDone_640 rfl ?_
      refine ag_aload 3 dL_isDone_642 rfl ?_
      refine ag_aload 4 dL_isDone_644 rfl ?_
      obtain ⟨q8, hq8, hf⟩ := hf
      refine ag_callS [.ref (lo + 3), .ref (lo + 4), .ref (lo + 6), .ref (lo + 7)] 4 (ctA hD5 (ctL_off hl _ hq8)) ⟨wl4 (i := 102) rfl rfl, ciL_off⟩ (wl4 (i := 103) rfl rfl) dL_isDone_646 rfl rfl (Nat.le_of_ble_eq_true rfl) ⟨Nat.le_of_ble_eq_true rfl, Nat.le_of_ble_eq_true rfl⟩ ⟨show kc + 125 + 0 + 0 ≤ 435 by omega, show ks + 750 + 0 + 0 ≤ 2610 by omega⟩ (fun _ => ?_)
      refine ag_goto 654 dL_isDone_649 (by decide) ?_
      refine ag_lv [] rfl ?_
      exact wkL_isDone_654 hl hb hb0 _ _ _ _ hD5 ⟨show kc + 125 + 0 + (0) ≤ 435 by omega, show ks + 750 + 0 + (0) ≤ 2610 by omega⟩ hf
  · rw [if_pos c6] at hf
    refine ag_sipush (-300 : Int32) dL_isDone_627 (by decide) ?_
    refine ag_goto 654 dL_isDone_630 (by decide) ?_
    refine ag_lv [] rfl ?_
    exact wkL_isDone_654 hl hb hb0 _ _ _ _ hD5 ⟨show kc + 125 + (0) ≤ 435 by omega, show ks + 750 + (0) ≤ 2610 by omega⟩ hf
def gL_isDone_573 (lo t Ls : Nat) (xs : Nat → Int32) (K : Int32 → TH → MS → Prop) (h : TH) (L : MS) (a18 : Int32) (s0 : Int32) : Prop :=
  (if s0 = 0 then gL_isDone_607 lo t Ls xs K h L a18 s0 else (xin ((48 : Int32) + a18) 64 = true ∧ (∃ W3, (ms_I L 4 ((48 : Int32) + a18).toNatClampNeg ((m_I L 4 ((48 : Int32) + a18).toNatClampNeg) + (1 : Int32))) = W3 ∧ (∃ q4, fL_finds W3 (m_I W3 7 (3 : Int32).toNatClampNeg) = some q4 ∧ gL_isDone_607 lo t Ls xs K h q4 a18 s0))))
set_option maxHeartbeats 4000000 in
set_option maxRecDepth 100000 in
theorem wkL_isDone_573 {l : Launch} {g : xG} {x0 : xV} {b lo t Ls : Nat} {xs : Nat → Int32} {K : Int32 → TH → MS → Prop} {kc ks : Nat} (hl : l.stackTraces = false) (hb : b + 8 < lo) (hb0 : b < x0.1 ∧ x0.2 b = none) (h : TH) (L : MS) (a18 : Int32) (s0 : Int32) (hD : LDp lo h) (hc : kc + (125) ≤ 435 ∧ ks + (750) ≤ 2610) (hf : gL_isDone_573 lo t Ls xs K h L a18 s0) : AWG (XS b Ls xs) (zR rmL_isDone g lo x0 K) ML_isDone rmL_isDone l g x0 kc ks (LW g lo h L) 573 [(0, va_rf (some t)), (6, .ref (lo + 3)), (7, .ref (lo + 4)), (9, .ref (lo + 6)), (10, .ref (lo + 7)), (18, .int a18)] [.int s0] := by
  rw [gL_isDone_573] at hf
  refine ag_istore [(19, .int s0), (0, va_rf (some t)), (6, .ref (lo + 3)), (7, .ref (lo + 4)), (9, .ref (lo + 6)), (10, .ref (lo + 7)), (18, .int a18)] dL_isDone_573 (by decide) rfl ?_
  refine ag_iload 0 dL_isDone_575 rfl ?_
  refine ag_if_eq 607 dL_isDone_577 (by decide) (fun c1 => ?_) (fun c1 => ?_)
  · rw [if_pos c1] at hf
    refine ag_lv [1, 2, 3, 4, 5, 6, 0] rfl ?_
    exact wkL_isDone_607 hl hb hb0 _ _ _ _ hD ⟨show kc + (125) ≤ 435 by omega, show ks + (750) ≤ 2610 by omega⟩ hf
  · rw [if_neg c1] at hf
    refine ag_aload 3 dL_isDone_580 rfl ?_
    refine ag_bipush (48 : Int32) dL_isDone_582 (by decide) ?_
    refine ag_iload 6 dL_isDone_584 rfl ?_
    refine ag_iadd dL_isDone_586 ?_
    refine ag_dup2 dL_isDone_587 rfl rfl ?_
    obtain ⟨hi2, hf⟩ := hf
    refine ar_iald 4 64 hD rfl (by decide) (xin_v hi2) dL_isDone_588 ?_
    refine ag_iconst (1 : Int32) dL_isDone_589 (by decide) ?_
    refine ag_iadd dL_isDone_590 ?_
    obtain ⟨W3, hW3, hf⟩ := hf
    refine ar_iast 4 64 hD rfl (by decide) (xin_v hi2) dL_isDone_591 ?_
    rw [hW3]
    refine ag_aload 2 dL_isDone_592 rfl ?_
    refine ag_aload 3 dL_isDone_594 rfl ?_
    refine ag_aload 4 dL_isDone_596 rfl ?_
    refine ag_aload 5 dL_isDone_598 rfl ?_
    refine ag_aload 5 dL_isDone_600 rfl ?_
    refine ag_iconst (3 : Int32) dL_isDone_602 (by decide) ?_
    refine ar_iald 7 5 hD rfl (by decide) (xin_v (by decide)) dL_isDone_603 ?_
    obtain ⟨q4, hq4, hf⟩ := hf
    refine ag_callS [.ref (lo + 3), .ref (lo + 4), .ref (lo + 6), .ref (lo + 7), .int (m_I W3 7 (3 : Int32).toNatClampNeg)] 5 (ctA hD (ctL_finds hl _ _ hq4)) ⟨wl4 (i := 40) rfl rfl, ciL_finds⟩ (wl4 (i := 41) rfl rfl) dL_isDone_604 rfl rfl (Nat.le_of_ble_eq_true rfl) ⟨Nat.le_of_ble_eq_true rfl, Nat.le_of_ble_eq_true rfl⟩ ⟨show kc + 0 + 0 ≤ 435 by omega, show ks + 0 + 0 ≤ 2610 by omega⟩ (fun _ => ?_)
    refine ag_lv [1, 2, 3, 4, 5, 6, 0] rfl ?_
    exact wkL_isDone_607 hl hb hb0 _ _ _ _ hD ⟨show kc + 0 + (125) ≤ 435 by omega, show ks + 0 + (750) ≤ 2610 by omega⟩ hf
def gL_isDone_506 (lo t Ls : Nat) (xs : Nat → Int32) (K : Int32 → TH → MS → Prop) (h : TH) (L : MS) (a18 : Int32) (a19 : Int32) : Prop :=
  gL_does lo t Ls xs (fun v2 h3 L4 => (if v2 = a19 then K (1 : Int32) h3 L4 else K (0 : Int32) h3 L4)) h L (4 : Int32) a18 (0 : Int32) (0 : Int32) (0 : Int32) (0 : Int32)
set_option maxHeartbeats 4000000 in
set_option maxRecDepth 100000 in
theorem wkL_isDone_506 {l : Launch} {g : xG} {x0 : xV} {b lo t Ls : Nat} {xs : Nat → Int32} {K : Int32 → TH → MS → Prop} {kc ks : Nat} (hl : l.stackTraces = false) (hb : b + 8 < lo) (hb0 : b < x0.1 ∧ x0.2 b = none) (h : TH) (L : MS) (a18 : Int32) (a19 : Int32) (hD : LDp lo h) (hc : kc + (125) ≤ 435 ∧ ks + (750) ≤ 2610) (hf : gL_isDone_506 lo t Ls xs K h L a18 a19) : AWG (XS b Ls xs) (zR rmL_isDone g lo x0 K) ML_isDone rmL_isDone l g x0 kc ks (LW g lo h L) 506 [(0, va_rf (some t)), (18, .int a18), (19, .int a19)] [] := by
  rw [gL_isDone_506] at hf
  refine ag_qload_n 0 dL_isDone_506 rfl ?_
  refine ag_iconst (4 : Int32) dL_isDone_507 (by decide) ?_
  refine ag_iload 1 dL_isDone_508 rfl ?_
  refine ag_iconst (0 : Int32) dL_isDone_510 (by decide) ?_
  refine ag_iconst (0 : Int32) dL_isDone_511 (by decide) ?_
  refine ag_iconst (0 : Int32) dL_isDone_512 (by decide) ?_
  refine ag_iconst (0 : Int32) dL_isDone_513 (by decide) ?_
  refine ag_callRH (fun s a c h => h.1) [va_rf (some t), .int (4 : Int32), .int a18, .int (0 : Int32), .int (0 : Int32), .int (0 : Int32), .int (0 : Int32)] 7 (ctL_does hl _ _ _ _ _ _ _ _ hD hf) ⟨wl1 (i := 129) rfl rfl, ciL_does⟩ (wl1 (i := 130) rfl rfl) dL_isDone_514 rfl rfl (Nat.le_of_ble_eq_true rfl) ⟨Nat.le_of_ble_eq_true rfl, Nat.le_of_ble_eq_true rfl⟩ ⟨show kc + 125 ≤ 435 by omega, show ks + 750 ≤ 2610 by omega⟩ (fun v2 h3 L4 hf hD5 => ?_)
  refine ag_iload 2 dL_isDone_517 rfl ?_
  refine ag_icmp_ne 526 dL_isDone_519 (by decide) (fun c6 => ?_) (fun c6 => ?_)
  · rw [if_neg c6] at hf
    refine ag_iconst (0 : Int32) dL_isDone_526 (by decide) ?_
    exact agr_zret hD5 hf rfl dL_isDone_527 rfl ⟨show kc + 125 + 0 ≤ 435 by omega, show ks + 750 + 0 ≤ 2610 by omega⟩
  · rw [if_pos c6] at hf
    refine ag_iconst (1 : Int32) dL_isDone_522 (by decide) ?_
    refine ag_goto 527 dL_isDone_523 (by decide) ?_
    exact agr_zret hD5 hf rfl dL_isDone_527 rfl ⟨show kc + 125 + 0 ≤ 435 by omega, show ks + 750 + 0 ≤ 2610 by omega⟩
def gL_isDone_482 (lo t Ls : Nat) (xs : Nat → Int32) (K : Int32 → TH → MS → Prop) (h : TH) (L : MS) (a18 : Int32) (s0 : Int32) : Prop :=
  (if s0 ≤ 0 then gL_isDone_506 lo t Ls xs K h L a18 s0 else (∃ q2, fL_ends L a18 (s0 - (1 : Int32)) = some q2 ∧ gL_isDone_506 lo t Ls xs K h q2 a18 s0))
set_option maxHeartbeats 4000000 in
set_option maxRecDepth 100000 in
theorem wkL_isDone_482 {l : Launch} {g : xG} {x0 : xV} {b lo t Ls : Nat} {xs : Nat → Int32} {K : Int32 → TH → MS → Prop} {kc ks : Nat} (hl : l.stackTraces = false) (hb : b + 8 < lo) (hb0 : b < x0.1 ∧ x0.2 b = none) (h : TH) (L : MS) (a18 : Int32) (s0 : Int32) (hD : LDp lo h) (hc : kc + (125) ≤ 435 ∧ ks + (750) ≤ 2610) (hf : gL_isDone_482 lo t Ls xs K h L a18 s0) : AWG (XS b Ls xs) (zR rmL_isDone g lo x0 K) ML_isDone rmL_isDone l g x0 kc ks (LW g lo h L) 482 [(0, va_rf (some t)), (6, .ref (lo + 3)), (7, .ref (lo + 4)), (9, .ref (lo + 6)), (10, .ref (lo + 7)), (18, .int a18)] [.int s0] := by
  rw [gL_isDone_482] at hf
  refine ag_istore [(19, .int s0), (0, va_rf (some t)), (6, .ref (lo + 3)), (7, .ref (lo + 4)), (9, .ref (lo + 6)), (10, .ref (lo + 7)), (18, .int a18)] dL_isDone_482 (by decide) rfl ?_
  refine ag_iload 0 dL_isDone_484 rfl ?_
  refine ag_if_le 506 dL_isDone_486 (by decide) (fun c1 => ?_) (fun c1 => ?_)
  · rw [if_pos c1] at hf
    refine ag_lv [1, 6, 0] rfl ?_
    exact wkL_isDone_506 hl hb hb0 _ _ _ _ hD ⟨show kc + (125) ≤ 435 by omega, show ks + (750) ≤ 2610 by omega⟩ hf
  · rw [if_neg c1] at hf
    refine ag_aload 2 dL_isDone_489 rfl ?_
    refine ag_aload 3 dL_isDone_491 rfl ?_
    refine ag_aload 4 dL_isDone_493 rfl ?_
    refine ag_aload 5 dL_isDone_495 rfl ?_
    refine ag_iload 6 dL_isDone_497 rfl ?_
    refine ag_iload 0 dL_isDone_499 rfl ?_
    refine ag_iconst (1 : Int32) dL_isDone_501 (by decide) ?_
    refine ag_isub dL_isDone_502 ?_
    obtain ⟨q2, hq2, hf⟩ := hf
    refine ag_callS [.ref (lo + 3), .ref (lo + 4), .ref (lo + 6), .ref (lo + 7), .int a18, .int (s0 - (1 : Int32))] 6 (ctA hD (ctL_ends hl _ _ _ hq2)) ⟨wl4 (i := 93) rfl rfl, ciL_ends⟩ (wl4 (i := 94) rfl rfl) dL_isDone_503 rfl rfl (Nat.le_of_ble_eq_true rfl) ⟨Nat.le_of_ble_eq_true rfl, Nat.le_of_ble_eq_true rfl⟩ ⟨show kc + 0 + 0 ≤ 435 by omega, show ks + 0 + 0 ≤ 2610 by omega⟩ (fun _ => ?_)
    refine ag_lv [1, 6, 0] rfl ?_
    exact wkL_isDone_506 hl hb hb0 _ _ _ _ hD ⟨show kc + 0 + (125) ≤ 435 by omega, show ks + 0 + (750) ≤ 2610 by omega⟩ hf
def gL_isDone_429 (lo t Ls : Nat) (xs : Nat → Int32) (K : Int32 → TH → MS → Prop) (h : TH) (L : MS) (s9 : Int32) (s10 : Int32) : Prop :=
  gL_isPassed lo t Ls xs (fun v2 h3 L4 => (∃ b6, v2 = bi b6 ∧ K v2 h3 L4)) h L s9 s10
set_option maxHeartbeats 4000000 in
set_option maxRecDepth 100000 in
theorem wkL_isDone_429 {l : Launch} {g : xG} {x0 : xV} {b lo t Ls : Nat} {xs : Nat → Int32} {K : Int32 → TH → MS → Prop} {kc ks : Nat} (hl : l.stackTraces = false) (hb : b + 8 < lo) (hb0 : b < x0.1 ∧ x0.2 b = none) (h : TH) (L : MS) (s9 : Int32) (s10 : Int32) (hD : LDp lo h) (hc : kc + (125) ≤ 435 ∧ ks + (750) ≤ 2610) (hf : gL_isDone_429 lo t Ls xs K h L s9 s10) : AWG (XS b Ls xs) (zR rmL_isDone g lo x0 K) ML_isDone rmL_isDone l g x0 kc ks (LW g lo h L) 429 [] [.int s10, .int s9, .ref (lo + 7), .ref (lo + 6), .ref (lo + 5), .ref (lo + 4), .ref (lo + 3), .ref (lo + 2), .ref (lo + 1), .ref (lo + 0), va_rf (some t)] := by
  rw [gL_isDone_429] at hf
  refine ag_callR (fun s a c h => h) hb0 [va_rf (some t), .ref (lo + 0), .ref (lo + 1), .ref (lo + 2), .ref (lo + 3), .ref (lo + 4), .ref (lo + 5), .ref (lo + 6), .ref (lo + 7), .int s9, .int s10] 11 (ctL_isPassed hl hb _ _ _ _ hD hf) ⟨wl4 (i := 99) rfl rfl, ciL_isPassed⟩ (wl4 (i := 100) rfl rfl) dL_isDone_429 rfl rfl (Nat.le_of_ble_eq_true rfl) ⟨Nat.le_of_ble_eq_true rfl, Nat.le_of_ble_eq_true rfl⟩ ⟨show kc + 125 ≤ 435 by omega, show ks + 750 ≤ 2610 by omega⟩ (fun v2 h3 L4 hf hD5 => ?_)
  obtain ⟨b6, hb6, hf⟩ := hf
  exact agr_zret hD5 hf (by rw [hb6]; exact nar_b _) dL_isDone_432 rfl ⟨show kc + 125 + 0 ≤ 435 by omega, show ks + 750 + 0 ≤ 2610 by omega⟩
def gL_isDone_381 (lo t Ls : Nat) (xs : Nat → Int32) (K : Int32 → TH → MS → Prop) (h : TH) (L : MS) (s10 : Int32) (s11 : Int32) (s12 : Int32) : Prop :=
  gL_isPlayed lo t Ls xs (fun v2 h3 L4 => (∃ b6, v2 = bi b6 ∧ K v2 h3 L4)) h L s10 s11 s12
set_option maxHeartbeats 4000000 in
set_option maxRecDepth 100000 in
theorem wkL_isDone_381 {l : Launch} {g : xG} {x0 : xV} {b lo t Ls : Nat} {xs : Nat → Int32} {K : Int32 → TH → MS → Prop} {kc ks : Nat} (hl : l.stackTraces = false) (hb : b + 8 < lo) (hb0 : b < x0.1 ∧ x0.2 b = none) (h : TH) (L : MS) (s10 : Int32) (s11 : Int32) (s12 : Int32) (hD : LDp lo h) (hc : kc + (435) ≤ 435 ∧ ks + (2610) ≤ 2610) (hf : gL_isDone_381 lo t Ls xs K h L s10 s11 s12) : AWG (XS b Ls xs) (zR rmL_isDone g lo x0 K) ML_isDone rmL_isDone l g x0 kc ks (LW g lo h L) 381 [] [.int s12, .int s11, .int s10, .ref (lo + 10), .ref (lo + 7), .ref (lo + 6), .ref (lo + 5), .ref (lo + 4), .ref (lo + 3), .ref (lo + 2), .ref (lo + 1), .ref (lo + 0), va_rf (some t)] := by
  rw [gL_isDone_381] at hf
  refine ag_callR (fun s a c h => h) hb0 [va_rf (some t), .ref (lo + 0), .ref (lo + 1), .ref (lo + 2), .ref (lo + 3), .ref (lo + 4), .ref (lo + 5), .ref (lo + 6), .ref (lo + 7), .ref (lo + 10), .int s10, .int s11, .int s12] 13 (ctL_isPlayed hl hb _ _ _ _ _ hD hf) ⟨wl4 (i := 81) rfl rfl, ciL_isPlayed⟩ (wl4 (i := 82) rfl rfl) dL_isDone_381 rfl rfl (Nat.le_of_ble_eq_true rfl) ⟨Nat.le_of_ble_eq_true rfl, Nat.le_of_ble_eq_true rfl⟩ ⟨show kc + 435 ≤ 435 by omega, show ks + 2610 ≤ 2610 by omega⟩ (fun v2 h3 L4 hf hD5 => ?_)
  obtain ⟨b6, hb6, hf⟩ := hf
  exact agr_zret hD5 hf (by rw [hb6]; exact nar_b _) dL_isDone_384 rfl ⟨show kc + 435 + 0 ≤ 435 by omega, show ks + 2610 + 0 ≤ 2610 by omega⟩
def gL_isDone_362 (lo t Ls : Nat) (xs : Nat → Int32) (K : Int32 → TH → MS → Prop) (h : TH) (L : MS) (a17 : Int32) (s10 : Int32) (s11 : Int32) : Prop :=
  (if (a17 - a17 / (30 : Int32) * (30 : Int32)) = 0 then gL_isDone_381 lo t Ls xs K h L s10 s11 (1001 : Int32) else gL_isDone_381 lo t Ls xs K h L s10 s11 (a17 - a17 / (60 : Int32) * (60 : Int32)))
set_option maxHeartbeats 4000000 in
set_option maxRecDepth 100000 in
theorem wkL_isDone_362 {l : Launch} {g : xG} {x0 : xV} {b lo t Ls : Nat} {xs : Nat → Int32} {K : Int32 → TH → MS → Prop} {kc ks : Nat} (hl : l.stackTraces = false) (hb : b + 8 < lo) (hb0 : b < x0.1 ∧ x0.2 b = none) (h : TH) (L : MS) (a17 : Int32) (s10 : Int32) (s11 : Int32) (hD : LDp lo h) (hc : kc + (435) ≤ 435 ∧ ks + (2610) ≤ 2610) (hf : gL_isDone_362 lo t Ls xs K h L a17 s10 s11) : AWG (XS b Ls xs) (zR rmL_isDone g lo x0 K) ML_isDone rmL_isDone l g x0 kc ks (LW g lo h L) 362 [(17, .int a17)] [.int s11, .int s10, .ref (lo + 10), .ref (lo + 7), .ref (lo + 6), .ref (lo + 5), .ref (lo + 4), .ref (lo + 3), .ref (lo + 2), .ref (lo + 1), .ref (lo + 0), va_rf (some t)] := by
  rw [gL_isDone_362] at hf
  refine ag_iload 0 dL_isDone_362 rfl ?_
  refine ag_bipush (30 : Int32) dL_isDone_364 (by decide) ?_
  refine ag_irem dL_isDone_366 (by decide) ?_
  refine ag_if_ne 376 dL_isDone_367 (by decide) (fun c1 => ?_) (fun c1 => ?_)
  · rw [if_neg c1] at hf
    refine ag_iload 0 dL_isDone_376 rfl ?_
    refine ag_bipush (60 : Int32) dL_isDone_378 (by decide) ?_
    refine ag_irem dL_isDone_380 (by decide) ?_
    refine ag_lv [] rfl ?_
    exact wkL_isDone_381 hl hb hb0 _ _ _ _ _ hD ⟨show kc + (435) ≤ 435 by omega, show ks + (2610) ≤ 2610 by omega⟩ hf
  · rw [if_pos c1] at hf
    refine ag_sipush (1001 : Int32) dL_isDone_370 (by decide) ?_
    refine ag_goto 381 dL_isDone_373 (by decide) ?_
    refine ag_lv [] rfl ?_
    exact wkL_isDone_381 hl hb hb0 _ _ _ _ _ hD ⟨show kc + (435) ≤ 435 by omega, show ks + (2610) ≤ 2610 by omega⟩ hf
def gL_isDone_277 (lo t Ls : Nat) (xs : Nat → Int32) (K : Int32 → TH → MS → Prop) (h : TH) (L : MS) (a17 : Int32) (s9 : Int32) (s10 : Int32) (s11 : Int32) : Prop :=
  gL_isBegun lo t Ls xs (fun v2 h3 L4 => (∃ b6, v2 = bi b6 ∧ K v2 h3 L4)) h L s9 s10 s11 ((a17 / (40 : Int32)) - (a17 / (40 : Int32)) / (7 : Int32) * (7 : Int32)) ((a17 / (280 : Int32)) - (a17 / (280 : Int32)) / (13 : Int32) * (13 : Int32))
set_option maxHeartbeats 4000000 in
set_option maxRecDepth 100000 in
theorem wkL_isDone_277 {l : Launch} {g : xG} {x0 : xV} {b lo t Ls : Nat} {xs : Nat → Int32} {K : Int32 → TH → MS → Prop} {kc ks : Nat} (hl : l.stackTraces = false) (hb : b + 8 < lo) (hb0 : b < x0.1 ∧ x0.2 b = none) (h : TH) (L : MS) (a17 : Int32) (s9 : Int32) (s10 : Int32) (s11 : Int32) (hD : LDp lo h) (hc : kc + (125) ≤ 435 ∧ ks + (750) ≤ 2610) (hf : gL_isDone_277 lo t Ls xs K h L a17 s9 s10 s11) : AWG (XS b Ls xs) (zR rmL_isDone g lo x0 K) ML_isDone rmL_isDone l g x0 kc ks (LW g lo h L) 277 [(17, .int a17)] [.int s11, .int s10, .int s9, .ref (lo + 7), .ref (lo + 6), .ref (lo + 5), .ref (lo + 4), .ref (lo + 3), .ref (lo + 2), .ref (lo + 1), .ref (lo + 0), va_rf (some t)] := by
  rw [gL_isDone_277] at hf
  refine ag_iload 0 dL_isDone_277 rfl ?_
  refine ag_bipush (40 : Int32) dL_isDone_279 (by decide) ?_
  refine ag_idiv dL_isDone_281 (by decide) ?_
  refine ag_bipush (7 : Int32) dL_isDone_282 (by decide) ?_
  refine ag_irem dL_isDone_284 (by decide) ?_
  refine ag_iload 0 dL_isDone_285 rfl ?_
  refine ag_sipush (280 : Int32) dL_isDone_287 (by decide) ?_
  refine ag_idiv dL_isDone_290 (by decide) ?_
  refine ag_bipush (13 : Int32) dL_isDone_291 (by decide) ?_
  refine ag_irem dL_isDone_293 (by decide) ?_
  refine ag_callR (fun s a c h => h) hb0 [va_rf (some t), .ref (lo + 0), .ref (lo + 1), .ref (lo + 2), .ref (lo + 3), .ref (lo + 4), .ref (lo + 5), .ref (lo + 6), .ref (lo + 7), .int s9, .int s10, .int s11, .int ((a17 / (40 : Int32)) - (a17 / (40 : Int32)) / (7 : Int32) * (7 : Int32)), .int ((a17 / (280 : Int32)) - (a17 / (280 : Int32)) / (13 : Int32) * (13 : Int32))] 14 (ctL_isBegun hl hb _ _ _ _ _ _ _ hD hf) ⟨wl4 (i := 75) rfl rfl, ciL_isBegun⟩ (wl4 (i := 76) rfl rfl) dL_isDone_294 rfl rfl (Nat.le_of_ble_eq_true rfl) ⟨Nat.le_of_ble_eq_true rfl, Nat.le_of_ble_eq_true rfl⟩ ⟨show kc + 125 ≤ 435 by omega, show ks + 750 ≤ 2610 by omega⟩ (fun v2 h3 L4 hf hD5 => ?_)
  obtain ⟨b6, hb6, hf⟩ := hf
  exact agr_zret hD5 hf (by rw [hb6]; exact nar_b _) dL_isDone_297 rfl ⟨show kc + 125 + 0 ≤ 435 by omega, show ks + 750 + 0 ≤ 2610 by omega⟩
def gL_isDone_194 (lo t Ls : Nat) (xs : Nat → Int32) (K : Int32 → TH → MS → Prop) (h : TH) (L : MS) (a19 : Int32) (a20 : Int32) : Prop :=
  gL_does lo t Ls xs (fun v2 h3 L4 => (if v2 = a20 then K (1 : Int32) h3 L4 else K (0 : Int32) h3 L4)) h L (0 : Int32) a19 (0 : Int32) (0 : Int32) (0 : Int32) (0 : Int32)
set_option maxHeartbeats 4000000 in
set_option maxRecDepth 100000 in
theorem wkL_isDone_194 {l : Launch} {g : xG} {x0 : xV} {b lo t Ls : Nat} {xs : Nat → Int32} {K : Int32 → TH → MS → Prop} {kc ks : Nat} (hl : l.stackTraces = false) (hb : b + 8 < lo) (hb0 : b < x0.1 ∧ x0.2 b = none) (h : TH) (L : MS) (a19 : Int32) (a20 : Int32) (hD : LDp lo h) (hc : kc + (125) ≤ 435 ∧ ks + (750) ≤ 2610) (hf : gL_isDone_194 lo t Ls xs K h L a19 a20) : AWG (XS b Ls xs) (zR rmL_isDone g lo x0 K) ML_isDone rmL_isDone l g x0 kc ks (LW g lo h L) 194 [(0, va_rf (some t)), (19, .int a19), (20, .int a20)] [] := by
  rw [gL_isDone_194] at hf
  refine ag_qload_n 0 dL_isDone_194 rfl ?_
  refine ag_iconst (0 : Int32) dL_isDone_195 (by decide) ?_
  refine ag_iload 1 dL_isDone_196 rfl ?_
  refine ag_iconst (0 : Int32) dL_isDone_198 (by decide) ?_
  refine ag_iconst (0 : Int32) dL_isDone_199 (by decide) ?_
  refine ag_iconst (0 : Int32) dL_isDone_200 (by decide) ?_
  refine ag_iconst (0 : Int32) dL_isDone_201 (by decide) ?_
  refine ag_callRH (fun s a c h => h.1) [va_rf (some t), .int (0 : Int32), .int a19, .int (0 : Int32), .int (0 : Int32), .int (0 : Int32), .int (0 : Int32)] 7 (ctL_does hl _ _ _ _ _ _ _ _ hD hf) ⟨wl1 (i := 129) rfl rfl, ciL_does⟩ (wl1 (i := 130) rfl rfl) dL_isDone_202 rfl rfl (Nat.le_of_ble_eq_true rfl) ⟨Nat.le_of_ble_eq_true rfl, Nat.le_of_ble_eq_true rfl⟩ ⟨show kc + 125 ≤ 435 by omega, show ks + 750 ≤ 2610 by omega⟩ (fun v2 h3 L4 hf hD5 => ?_)
  refine ag_iload 2 dL_isDone_205 rfl ?_
  refine ag_icmp_ne 214 dL_isDone_207 (by decide) (fun c6 => ?_) (fun c6 => ?_)
  · rw [if_neg c6] at hf
    refine ag_iconst (0 : Int32) dL_isDone_214 (by decide) ?_
    exact agr_zret hD5 hf rfl dL_isDone_215 rfl ⟨show kc + 125 + 0 ≤ 435 by omega, show ks + 750 + 0 ≤ 2610 by omega⟩
  · rw [if_pos c6] at hf
    refine ag_iconst (1 : Int32) dL_isDone_210 (by decide) ?_
    refine ag_goto 215 dL_isDone_211 (by decide) ?_
    exact agr_zret hD5 hf rfl dL_isDone_215 rfl ⟨show kc + 125 + 0 ≤ 435 by omega, show ks + 750 + 0 ≤ 2610 by omega⟩
def gL_isDone_149 (lo t Ls : Nat) (xs : Nat → Int32) (K : Int32 → TH → MS → Prop) (h : TH) (L : MS) (a19 : Int32) (s0 : Int32) : Prop :=
  (if s0 < 0 then gL_isDone_194 lo t Ls xs K h L a19 s0 else (xin ((3 : Int32) * s0) 24 = true ∧ (xin (((3 : Int32) * s0) + (1 : Int32)) 24 = true ∧ (∃ W4, (ms_I (ms_I L 3 ((3 : Int32) * s0).toNatClampNeg a19) 3 (((3 : Int32) * s0) + (1 : Int32)).toNatClampNeg a19) = W4 ∧ (xin (((3 : Int32) * s0) + (2 : Int32)) 24 = true ∧ (∃ W6, (ms_I W4 3 (((3 : Int32) * s0) + (2 : Int32)).toNatClampNeg (0 : Int32)) = W6 ∧ (∃ W7, (ms_I W6 7 (0 : Int32).toNatClampNeg ((m_I W6 7 (0 : Int32).toNatClampNeg) + (1 : Int32))) = W7 ∧ gL_isDone_194 lo t Ls xs K h W7 a19 s0)))))))
set_option maxHeartbeats 4000000 in
set_option maxRecDepth 100000 in
theorem wkL_isDone_149 {l : Launch} {g : xG} {x0 : xV} {b lo t Ls : Nat} {xs : Nat → Int32} {K : Int32 → TH → MS → Prop} {kc ks : Nat} (hl : l.stackTraces = false) (hb : b + 8 < lo) (hb0 : b < x0.1 ∧ x0.2 b = none) (h : TH) (L : MS) (a19 : Int32) (s0 : Int32) (hD : LDp lo h) (hc : kc + (125) ≤ 435 ∧ ks + (750) ≤ 2610) (hf : gL_isDone_149 lo t Ls xs K h L a19 s0) : AWG (XS b Ls xs) (zR rmL_isDone g lo x0 K) ML_isDone rmL_isDone l g x0 kc ks (LW g lo h L) 149 [(0, va_rf (some t)), (6, .ref (lo + 3)), (10, .ref (lo + 7)), (19, .int a19)] [.int s0] := by
  rw [gL_isDone_149] at hf
  refine ag_istore [(20, .int s0), (0, va_rf (some t)), (6, .ref (lo + 3)), (10, .ref (lo + 7)), (19, .int a19)] dL_isDone_149 (by decide) rfl ?_
  refine ag_iload 0 dL_isDone_151 rfl ?_
  refine ag_if_lt 194 dL_isDone_153 (by decide) (fun c1 => ?_) (fun c1 => ?_)
  · rw [if_pos c1] at hf
    refine ag_lv [1, 4, 0] rfl ?_
    exact wkL_isDone_194 hl hb hb0 _ _ _ _ hD ⟨show kc + (125) ≤ 435 by omega, show ks + (750) ≤ 2610 by omega⟩ hf
  · rw [if_neg c1] at hf
    refine ag_aload 2 dL_isDone_156 rfl ?_
    refine ag_iconst (3 : Int32) dL_isDone_158 (by decide) ?_
    refine ag_iload 0 dL_isDone_159 rfl ?_
    refine ag_imul dL_isDone_161 ?_
    refine ag_iload 4 dL_isDone_162 rfl ?_
    obtain ⟨hi2, hf⟩ := hf
    refine ar_iast 3 24 hD rfl (by decide) (xin_v hi2) dL_isDone_164 ?_
    refine ag_aload 2 dL_isDone_165 rfl ?_
    refine ag_iconst (3 : Int32) dL_isDone_167 (by decide) ?_
    refine ag_iload 0 dL_isDone_168 rfl ?_
    refine ag_imul dL_isDone_170 ?_
    refine ag_iconst (1 : Int32) dL_isDone_171 (by decide) ?_
    refine ag_iadd dL_isDone_172 ?_
    refine ag_iload 4 dL_isDone_173 rfl ?_
    obtain ⟨hi3, hf⟩ := hf
    obtain ⟨W4, hW4, hf⟩ := hf
    refine ar_iast 3 24 hD rfl (by decide) (xin_v hi3) dL_isDone_175 ?_
    rw [hW4]
    refine ag_aload 2 dL_isDone_176 rfl ?_
    refine ag_iconst (3 : Int32) dL_isDone_178 (by decide) ?_
    refine ag_iload 0 dL_isDone_179 rfl ?_
    refine ag_imul dL_isDone_181 ?_
    refine ag_iconst (2 : Int32) dL_isDone_182 (by decide) ?_
    refine ag_iadd dL_isDone_183 ?_
    refine ag_iconst (0 : Int32) dL_isDone_184 (by decide) ?_
    obtain ⟨hi5, hf⟩ := hf
    obtain ⟨W6, hW6, hf⟩ := hf
    refine ar_iast 3 24 hD rfl (by decide) (xin_v hi5) dL_isDone_185 ?_
    rw [hW6]
    refine ag_aload 3 dL_isDone_186 rfl ?_
    refine ag_iconst (0 : Int32) dL_isDone_188 (by decide) ?_
    refine ag_dup2 dL_isDone_189 rfl rfl ?_
    refine ar_iald 7 5 hD rfl (by decide) (xin_v (by decide)) dL_isDone_190 ?_
    refine ag_iconst (1 : Int32) dL_isDone_191 (by decide) ?_
    refine ag_iadd dL_isDone_192 ?_
    obtain ⟨W7, hW7, hf⟩ := hf
    refine ar_iast 7 5 hD rfl (by decide) (xin_v (by decide)) dL_isDone_193 ?_
    rw [hW7]
    refine ag_lv [1, 4, 0] rfl ?_
    exact wkL_isDone_194 hl hb hb0 _ _ _ _ hD ⟨show kc + (125) ≤ 435 by omega, show ks + (750) ≤ 2610 by omega⟩ hf
def gL_isDone_116 (lo t Ls : Nat) (xs : Nat → Int32) (K : Int32 → TH → MS → Prop) (h : TH) (L : MS) (s0 : Int32) : Prop :=
  (if s0 ≤ (20 : Int32) then (if (m_I L 7 (0 : Int32).toNatClampNeg) = (8 : Int32) then gL_isDone_149 lo t Ls xs K h L s0 (-100 : Int32) else gL_isDone_149 lo t Ls xs K h L s0 (m_I L 7 (0 : Int32).toNatClampNeg)) else gL_isDone_149 lo t Ls xs K h L s0 (-200 : Int32))
set_option maxHeartbeats 4000000 in
set_option maxRecDepth 100000 in
theorem wkL_isDone_116 {l : Launch} {g : xG} {x0 : xV} {b lo t Ls : Nat} {xs : Nat → Int32} {K : Int32 → TH → MS → Prop} {kc ks : Nat} (hl : l.stackTraces = false) (hb : b + 8 < lo) (hb0 : b < x0.1 ∧ x0.2 b = none) (h : TH) (L : MS) (s0 : Int32) (hD : LDp lo h) (hc : kc + (125) ≤ 435 ∧ ks + (750) ≤ 2610) (hf : gL_isDone_116 lo t Ls xs K h L s0) : AWG (XS b Ls xs) (zR rmL_isDone g lo x0 K) ML_isDone rmL_isDone l g x0 kc ks (LW g lo h L) 116 [(0, va_rf (some t)), (6, .ref (lo + 3)), (10, .ref (lo + 7))] [.int s0] := by
  rw [gL_isDone_116] at hf
  refine ag_istore [(19, .int s0), (0, va_rf (some t)), (6, .ref (lo + 3)), (10, .ref (lo + 7))] dL_isDone_116 (by decide) rfl ?_
  refine ag_iload 0 dL_isDone_118 rfl ?_
  refine ag_bipush (20 : Int32) dL_isDone_120 (by decide) ?_
  refine ag_icmp_le 131 dL_isDone_122 (by decide) (fun c1 => ?_) (fun c1 => ?_)
  · rw [if_pos c1] at hf
    refine ag_aload 3 dL_isDone_131 rfl ?_
    refine ag_iconst (0 : Int32) dL_isDone_133 (by decide) ?_
    refine ar_iald 7 5 hD rfl (by decide) (xin_v (by decide)) dL_isDone_134 ?_
    refine ag_bipush (8 : Int32) dL_isDone_135 (by decide) ?_
    refine ag_icmp_ne 145 dL_isDone_137 (by decide) (fun c2 => ?_) (fun c2 => ?_)
    · rw [if_neg c2] at hf
      refine ag_aload 3 dL_isDone_145 rfl ?_
      refine ag_iconst (0 : Int32) dL_isDone_147 (by decide) ?_
      refine ar_iald 7 5 hD rfl (by decide) (xin_v (by decide)) dL_isDone_148 ?_
      refine ag_lv [1, 2, 3, 0] rfl ?_
      exact wkL_isDone_149 hl hb hb0 _ _ _ _ hD ⟨show kc + (125) ≤ 435 by omega, show ks + (750) ≤ 2610 by omega⟩ hf
    · rw [if_pos c2] at hf
      refine ag_bipush (-100 : Int32) dL_isDone_140 (by decide) ?_
      refine ag_goto 149 dL_isDone_142 (by decide) ?_
      refine ag_lv [1, 2, 3, 0] rfl ?_
      exact wkL_isDone_149 hl hb hb0 _ _ _ _ hD ⟨show kc + (125) ≤ 435 by omega, show ks + (750) ≤ 2610 by omega⟩ hf
  · rw [if_neg c1] at hf
    refine ag_sipush (-200 : Int32) dL_isDone_125 (by decide) ?_
    refine ag_goto 149 dL_isDone_128 (by decide) ?_
    refine ag_lv [1, 2, 3, 0] rfl ?_
    exact wkL_isDone_149 hl hb hb0 _ _ _ _ hD ⟨show kc + (125) ≤ 435 by omega, show ks + (750) ≤ 2610 by omega⟩ hf
def gL_isDone_90 (lo t Ls : Nat) (xs : Nat → Int32) (K : Int32 → TH → MS → Prop) (h : TH) (L : MS) (a14 : Int32) (a15 : Int32) (a16 : Int32) (a17 : Int32) (s0 : Int32) : Prop :=
  (if (4 : Int32) ≤ a14 then (if (10 : Int32) ≤ a14 then (if (28 : Int32) ≤ a14 then (if (32 : Int32) ≤ a14 then (if (39 : Int32) ≤ a14 then (if (42 : Int32) ≤ a14 then (if a14 = (42 : Int32) then gL_isSettled lo t Ls xs (fun v11 h12 L13 => (∃ b15, v11 = bi b15 ∧ K v11 h12 L13)) h L else (if (45 : Int32) ≤ a14 then (if (48 : Int32) ≤ a14 then gL_isDone_715 lo t Ls xs K h L a15 a16 a17 (2 : Int32) else gL_isDone_715 lo t Ls xs K h L a15 a16 a17 (1 : Int32)) else gL_isDone_715 lo t Ls xs K h L a15 a16 a17 (0 : Int32))) else (if (m_I L 7 (1 : Int32).toNatClampNeg) ≤ s0 then gL_isDone_573 lo t Ls xs K h L s0 (0 : Int32) else (xin ((32 : Int32) + s0) 64 = true ∧ (if (m_I L 4 ((32 : Int32) + s0).toNatClampNeg) ≤ 0 then gL_isDone_573 lo t Ls xs K h L s0 (0 : Int32) else (xin ((48 : Int32) + s0) 64 = true ∧ (if ((m_I L 4 ((48 : Int32) + s0).toNatClampNeg) - (m_I L 4 ((48 : Int32) + s0).toNatClampNeg) / (2 : Int32) * (2 : Int32)) = 0 then gL_isDone_573 lo t Ls xs K h L s0 (1 : Int32) else gL_isDone_573 lo t Ls xs K h L s0 (0 : Int32))))))) else (if s0 = (m_I L 7 (1 : Int32).toNatClampNeg) then gL_isDone_482 lo t Ls xs K h L s0 (-300 : Int32) else (xin ((32 : Int32) + s0) 64 = true ∧ (if (m_I L 4 ((32 : Int32) + s0).toNatClampNeg) ≤ 0 then (∃ q24, fL_side L s0 = some q24 ∧ gL_isDone_482 lo t Ls xs K h L s0 ((2 : Int32) - q24)) else gL_isDone_482 lo t Ls xs K h L s0 (-100 : Int32))))) else (if (a17 - a17 / (30 : Int32) * (30 : Int32)) = 0 then gL_isDone_429 lo t Ls xs K h L s0 (1001 : Int32) else gL_isDone_429 lo t Ls xs K h L s0 (a17 - a17 / (60 : Int32) * (60 : Int32)))) else (if (a16 - a16 / (30 : Int32) * (30 : Int32)) = 0 then gL_isDone_362 lo t Ls xs K h L a17 s0 (49 : Int32) else (if (a16 - a16 / (3 : Int32) * (3 : Int32)) = 0 then gL_isDone_362 lo t Ls xs K h L a17 s0 ((a16 / (3 : Int32)) - (a16 / (3 : Int32)) / (12 : Int32) * (12 : Int32)) else gL_isDone_362 lo t Ls xs K h L a17 s0 ((a16 / (3 : Int32)) - (a16 / (3 : Int32)) / (49 : Int32) * (49 : Int32))))) else (¬ ((m_I L 7 (0 : Int32).toNatClampNeg) + (1 : Int32)) = 0 ∧ (¬ ((m_I L 7 (0 : Int32).toNatClampNeg) + (1 : Int32)) = 0 ∧ (if (a17 - a17 / (40 : Int32) * (40 : Int32)) = 0 then gL_isDone_277 lo t Ls xs K h L a17 (a15 - a15 / ((m_I L 7 (0 : Int32).toNatClampNeg) + (1 : Int32)) * ((m_I L 7 (0 : Int32).toNatClampNeg) + (1 : Int32))) (a16 - a16 / ((m_I L 7 (0 : Int32).toNatClampNeg) + (1 : Int32)) * ((m_I L 7 (0 : Int32).toNatClampNeg) + (1 : Int32))) (3601 : Int32) else gL_isDone_277 lo t Ls xs K h L a17 (a15 - a15 / ((m_I L 7 (0 : Int32).toNatClampNeg) + (1 : Int32)) * ((m_I L 7 (0 : Int32).toNatClampNeg) + (1 : Int32))) (a16 - a16 / ((m_I L 7 (0 : Int32).toNatClampNeg) + (1 : Int32)) * ((m_I L 7 (0 : Int32).toNatClampNeg) + (1 : Int32))) (a17 - a17 / (900 : Int32) * (900 : Int32)))))) else (if (a16 - a16 / (30 : Int32) * (30 : Int32)) = 0 then gL_isDone_116 lo t Ls xs K h L (21 : Int32) else gL_isDone_116 lo t Ls xs K h L (a16 - a16 / (8 : Int32) * (8 : Int32))))
set_option maxHeartbeats 4000000 in
set_option maxRecDepth 100000 in
theorem wkL_isDone_90 {l : Launch} {g : xG} {x0 : xV} {b lo t Ls : Nat} {xs : Nat → Int32} {K : Int32 → TH → MS → Prop} {kc ks : Nat} (hl : l.stackTraces = false) (hb : b + 8 < lo) (hb0 : b < x0.1 ∧ x0.2 b = none) (h : TH) (L : MS) (a14 : Int32) (a15 : Int32) (a16 : Int32) (a17 : Int32) (s0 : Int32) (hD : LDp lo h) (hc : kc + (435) ≤ 435 ∧ ks + (2610) ≤ 2610) (hf : gL_isDone_90 lo t Ls xs K h L a14 a15 a16 a17 s0) : AWG (XS b Ls xs) (zR rmL_isDone g lo x0 K) ML_isDone rmL_isDone l g x0 kc ks (LW g lo h L) 90 [(0, va_rf (some t)), (3, .ref (lo + 0)), (4, .ref (lo + 1)), (5, .ref (lo + 2)), (6, .ref (lo + 3)), (7, .ref (lo + 4)), (8, .ref (lo + 5)), (9, .ref (lo + 6)), (10, .ref (lo + 7)), (11, .ref (lo + 8)), (12, .ref (lo + 9)), (13, .ref (lo + 10)), (14, .int a14), (15, .int a15), (16, .int a16), (17, .int a17)] [.int s0] := by
  rw [gL_isDone_90] at hf
  refine ag_istore [(18, .int s0), (0, va_rf (some t)), (3, .ref (lo + 0)), (4, .ref (lo + 1)), (5, .ref (lo + 2)), (6, .ref (lo + 3)), (7, .ref (lo + 4)), (8, .ref (lo + 5)), (9, .ref (lo + 6)), (10, .ref (lo + 7)), (11, .ref (lo + 8)), (12, .ref (lo + 9)), (13, .ref (lo + 10)), (14, .int a14), (15, .int a15), (16, .int a16), (17, .int a17)] dL_isDone_90 (by decide) rfl ?_
  refine ag_iload 13 dL_isDone_92 rfl ?_
  refine ag_iconst (4 : Int32) dL_isDone_94 (by decide) ?_
  refine ag_icmp_ge 216 dL_isDone_95 (by decide) (fun c1 => ?_) (fun c1 => ?_)
  · rw [if_pos c1] at hf
    refine ag_iload 13 dL_isDone_216 rfl ?_
    refine ag_bipush (10 : Int32) dL_isDone_218 (by decide) ?_
    refine ag_icmp_ge 298 dL_isDone_220 (by decide) (fun c2 => ?_) (fun c2 => ?_)
    · rw [if_pos c2] at hf
      refine ag_iload 13 dL_isDone_298 rfl ?_
      refine ag_bipush (28 : Int32) dL_isDone_300 (by decide) ?_
      refine ag_icmp_ge 385 dL_isDone_302 (by decide) (fun c3 => ?_) (fun c3 => ?_)
      · rw [if_pos c3] at hf
        refine ag_iload 13 dL_isDone_385 rfl ?_
        refine ag_bipush (32 : Int32) dL_isDone_387 (by decide) ?_
        refine ag_icmp_ge 433 dL_isDone_389 (by decide) (fun c4 => ?_) (fun c4 => ?_)
        · rw [if_pos c4] at hf
          refine ag_iload 13 dL_isDone_433 rfl ?_
          refine ag_bipush (39 : Int32) dL_isDone_435 (by decide) ?_
          refine ag_icmp_ge 528 dL_isDone_437 (by decide) (fun c5 => ?_) (fun c5 => ?_)
          · rw [if_pos c5] at hf
            refine ag_iload 13 dL_isDone_528 rfl ?_
            refine ag_bipush (42 : Int32) dL_isDone_530 (by decide) ?_
            refine ag_icmp_ge 663 dL_isDone_532 (by decide) (fun c6 => ?_) (fun c6 => ?_)
            · rw [if_pos c6] at hf
              refine ag_iload 13 dL_isDone_663 rfl ?_
              refine ag_bipush (42 : Int32) dL_isDone_665 (by decide) ?_
              refine ag_icmp_ne 683 dL_isDone_667 (by decide) (fun c7 => ?_) (fun c7 => ?_)
              · rw [if_neg c7] at hf
                refine ag_qload_n 1 dL_isDone_683 rfl ?_
                refine ag_aload 10 dL_isDone_684 rfl ?_
                refine ag_aload 11 dL_isDone_686 rfl ?_
                refine ag_aload 9 dL_isDone_688 rfl ?_
                refine ag_aload 8 dL_isDone_690 rfl ?_
                refine ag_iload 13 dL_isDone_692 rfl ?_
                refine ag_bipush (45 : Int32) dL_isDone_694 (by decide) ?_
                refine ag_icmp_ge 703 dL_isDone_696 (by decide) (fun c8 => ?_) (fun c8 => ?_)
                · rw [if_pos c8] at hf
                  refine ag_iload 13 dL_isDone_703 rfl ?_
                  refine ag_bipush (48 : Int32) dL_isDone_705 (by decide) ?_
                  refine ag_icmp_ge 714 dL_isDone_707 (by decide) (fun c9 => ?_) (fun c9 => ?_)
                  · rw [if_pos c9] at hf
                    refine ag_iconst (2 : Int32) dL_isDone_714 (by decide) ?_
                    refine ag_lv [14, 15, 16] rfl ?_
                    exact wkL_isDone_715 hl hb hb0 _ _ _ _ _ _ hD ⟨show kc + (125) ≤ 435 by omega, show ks + (750) ≤ 2610 by omega⟩ hf
                  · rw [if_neg c9] at hf
                    refine ag_iconst (1 : Int32) dL_isDone_710 (by decide) ?_
                    refine ag_goto 715 dL_isDone_711 (by decide) ?_
                    refine ag_lv [14, 15, 16] rfl ?_
                    exact wkL_isDone_715 hl hb hb0 _ _ _ _ _ _ hD ⟨show kc + (125) ≤ 435 by omega, show ks + (750) ≤ 2610 by omega⟩ hf
                · rw [if_neg c8] at hf
                  refine ag_iconst (0 : Int32) dL_isDone_699 (by decide) ?_
                  refine ag_goto 715 dL_isDone_700 (by decide) ?_
                  refine ag_lv [14, 15, 16] rfl ?_
                  exact wkL_isDone_715 hl hb hb0 _ _ _ _ _ _ hD ⟨show kc + (125) ≤ 435 by omega, show ks + (750) ≤ 2610 by omega⟩ hf
              · rw [if_pos c7] at hf
                refine ag_qload_n 1 dL_isDone_670 rfl ?_
                refine ag_aload 5 dL_isDone_671 rfl ?_
                refine ag_aload 6 dL_isDone_673 rfl ?_
                refine ag_aload 8 dL_isDone_675 rfl ?_
                refine ag_aload 9 dL_isDone_677 rfl ?_
                refine ag_callR (fun s a c h => h) hb0 [va_rf (some t), .ref (lo + 3), .ref (lo + 4), .ref (lo + 6), .ref (lo + 7)] 5 (ctL_isSettled hl hb _ _ hD hf) ⟨wl4 (i := 105) rfl rfl, ciL_isSettled⟩ (wl4 (i := 106) rfl rfl) dL_isDone_679 rfl rfl (Nat.le_of_ble_eq_true rfl) ⟨Nat.le_of_ble_eq_true rfl, Nat.le_of_ble_eq_true rfl⟩ ⟨show kc + 0 ≤ 435 by omega, show ks + 0 ≤ 2610 by omega⟩ (fun v11 h12 L13 hf hD14 => ?_)
                obtain ⟨b15, hb15, hf⟩ := hf
                exact agr_zret hD14 hf (by rw [hb15]; exact nar_b _) dL_isDone_682 rfl ⟨show kc + 0 + 0 ≤ 435 by omega, show ks + 0 + 0 ≤ 2610 by omega⟩
            · rw [if_neg c6] at hf
              refine ag_iload 0 dL_isDone_535 rfl ?_
              refine ag_aload 9 dL_isDone_537 rfl ?_
              refine ag_iconst (1 : Int32) dL_isDone_539 (by decide) ?_
              refine ar_iald 7 5 hD rfl (by decide) (xin_v (by decide)) dL_isDone_540 ?_
              refine ag_icmp_ge 572 dL_isDone_541 (by decide) (fun c16 => ?_) (fun c16 => ?_)
              · rw [if_pos c16] at hf
                refine ag_iconst (0 : Int32) dL_isDone_572 (by decide) ?_
                refine ag_lv [1, 5, 6, 8, 9, 0] rfl ?_
                exact wkL_isDone_573 hl hb hb0 _ _ _ _ hD ⟨show kc + (125) ≤ 435 by omega, show ks + (750) ≤ 2610 by omega⟩ hf
              · rw [if_neg c16] at hf
                refine ag_aload 6 dL_isDone_544 rfl ?_
                refine ag_bipush (32 : Int32) dL_isDone_546 (by decide) ?_
                refine ag_iload 0 dL_isDone_548 rfl ?_
                refine ag_iadd dL_isDone_550 ?_
                obtain ⟨hi17, hf⟩ := hf
                refine ar_iald 4 64 hD rfl (by decide) (xin_v hi17) dL_isDone_551 ?_
                refine ag_if_le 572 dL_isDone_552 (by decide) (fun c18 => ?_) (fun c18 => ?_)
                · rw [if_pos c18] at hf
                  refine ag_iconst (0 : Int32) dL_isDone_572 (by decide) ?_
                  refine ag_lv [1, 5, 6, 8, 9, 0] rfl ?_
                  exact wkL_isDone_573 hl hb hb0 _ _ _ _ hD ⟨show kc + (125) ≤ 435 by omega, show ks + (750) ≤ 2610 by omega⟩ hf
                · rw [if_neg c18] at hf
                  refine ag_aload 6 dL_isDone_555 rfl ?_
                  refine ag_bipush (48 : Int32) dL_isDone_557 (by decide) ?_
                  refine ag_iload 0 dL_isDone_559 rfl ?_
                  refine ag_iadd dL_isDone_561 ?_
                  obtain ⟨hi19, hf⟩ := hf
                  refine ar_iald 4 64 hD rfl (by decide) (xin_v hi19) dL_isDone_562 ?_
                  refine ag_iconst (2 : Int32) dL_isDone_563 (by decide) ?_
                  refine ag_irem dL_isDone_564 (by decide) ?_
                  refine ag_if_ne 572 dL_isDone_565 (by decide) (fun c20 => ?_) (fun c20 => ?_)
                  · rw [if_neg c20] at hf
                    refine ag_iconst (0 : Int32) dL_isDone_572 (by decide) ?_
                    refine ag_lv [1, 5, 6, 8, 9, 0] rfl ?_
                    exact wkL_isDone_573 hl hb hb0 _ _ _ _ hD ⟨show kc + (125) ≤ 435 by omega, show ks + (750) ≤ 2610 by omega⟩ hf
                  · rw [if_pos c20] at hf
                    refine ag_iconst (1 : Int32) dL_isDone_568 (by decide) ?_
                    refine ag_goto 573 dL_isDone_569 (by decide) ?_
                    refine ag_lv [1, 5, 6, 8, 9, 0] rfl ?_
                    exact wkL_isDone_573 hl hb hb0 _ _ _ _ hD ⟨show kc + (125) ≤ 435 by omega, show ks + (750) ≤ 2610 by omega⟩ hf
          · rw [if_neg c5] at hf
            refine ag_iload 0 dL_isDone_440 rfl ?_
            refine ag_aload 9 dL_isDone_442 rfl ?_
            refine ag_iconst (1 : Int32) dL_isDone_444 (by decide) ?_
            refine ar_iald 7 5 hD rfl (by decide) (xin_v (by decide)) dL_isDone_445 ?_
            refine ag_icmp_ne 455 dL_isDone_446 (by decide) (fun c21 => ?_) (fun c21 => ?_)
            · rw [if_neg c21] at hf
              refine ag_aload 6 dL_isDone_455 rfl ?_
              refine ag_bipush (32 : Int32) dL_isDone_457 (by decide) ?_
              refine ag_iload 0 dL_isDone_459 rfl ?_
              refine ag_iadd dL_isDone_461 ?_
              obtain ⟨hi22, hf⟩ := hf
              refine ar_iald 4 64 hD rfl (by decide) (xin_v hi22) dL_isDone_462 ?_
              refine ag_if_le 471 dL_isDone_463 (by decide) (fun c23 => ?_) (fun c23 => ?_)
              · rw [if_pos c23] at hf
                refine ag_iconst (2 : Int32) dL_isDone_471 (by decide) ?_
                refine ag_aload 6 dL_isDone_472 rfl ?_
                refine ag_aload 8 dL_isDone_474 rfl ?_
                refine ag_iload 0 dL_isDone_476 rfl ?_
                obtain ⟨q24, hq24, hf⟩ := hf
                refine ag_callS [.ref (lo + 4), .ref (lo + 6), .int s0] 3 (ctA hD (ctL_side hl _ _ hq24)) ⟨wl4 (i := 84) rfl rfl, ciL_side⟩ (wl4 (i := 85) rfl rfl) dL_isDone_478 rfl rfl (Nat.le_of_ble_eq_true rfl) ⟨Nat.le_of_ble_eq_true rfl, Nat.le_of_ble_eq_true rfl⟩ ⟨show kc + 0 + 0 ≤ 435 by omega, show ks + 0 + 0 ≤ 2610 by omega⟩ (fun _ => ?_)
                refine ag_isub dL_isDone_481 ?_
                refine ag_lv [1, 5, 6, 8, 9, 0] rfl ?_
                exact wkL_isDone_482 hl hb hb0 _ _ _ _ hD ⟨show kc + 0 + (125) ≤ 435 by omega, show ks + 0 + (750) ≤ 2610 by omega⟩ hf
              · rw [if_neg c23] at hf
                refine ag_bipush (-100 : Int32) dL_isDone_466 (by decide) ?_
                refine ag_goto 482 dL_isDone_468 (by decide) ?_
                refine ag_lv [1, 5, 6, 8, 9, 0] rfl ?_
                exact wkL_isDone_482 hl hb hb0 _ _ _ _ hD ⟨show kc + (125) ≤ 435 by omega, show ks + (750) ≤ 2610 by omega⟩ hf
            · rw [if_pos c21] at hf
              refine ag_sipush (-300 : Int32) dL_isDone_449 (by decide) ?_
              refine ag_goto 482 dL_isDone_452 (by decide) ?_
              refine ag_lv [1, 5, 6, 8, 9, 0] rfl ?_
              exact wkL_isDone_482 hl hb hb0 _ _ _ _ hD ⟨show kc + (125) ≤ 435 by omega, show ks + (750) ≤ 2610 by omega⟩ hf
        · rw [if_neg c4] at hf
          refine ag_qload_n 1 dL_isDone_392 rfl ?_
          refine ag_aload_n 2 dL_isDone_393 rfl ?_
          refine ag_aload 3 dL_isDone_394 rfl ?_
          refine ag_aload 4 dL_isDone_396 rfl ?_
          refine ag_aload 5 dL_isDone_398 rfl ?_
          refine ag_aload 6 dL_isDone_400 rfl ?_
          refine ag_aload 7 dL_isDone_402 rfl ?_
          refine ag_aload 8 dL_isDone_404 rfl ?_
          refine ag_aload 9 dL_isDone_406 rfl ?_
          refine ag_iload 0 dL_isDone_408 rfl ?_
          refine ag_iload 16 dL_isDone_410 rfl ?_
          refine ag_bipush (30 : Int32) dL_isDone_412 (by decide) ?_
          refine ag_irem dL_isDone_414 (by decide) ?_
          refine ag_if_ne 424 dL_isDone_415 (by decide) (fun c25 => ?_) (fun c25 => ?_)
          · rw [if_neg c25] at hf
            refine ag_iload 16 dL_isDone_424 rfl ?_
            refine ag_bipush (60 : Int32) dL_isDone_426 (by decide) ?_
            refine ag_irem dL_isDone_428 (by decide) ?_
            refine ag_lv [] rfl ?_
            exact wkL_isDone_429 hl hb hb0 _ _ _ _ hD ⟨show kc + (125) ≤ 435 by omega, show ks + (750) ≤ 2610 by omega⟩ hf
          · rw [if_pos c25] at hf
            refine ag_sipush (1001 : Int32) dL_isDone_418 (by decide) ?_
            refine ag_goto 429 dL_isDone_421 (by decide) ?_
            refine ag_lv [] rfl ?_
            exact wkL_isDone_429 hl hb hb0 _ _ _ _ hD ⟨show kc + (125) ≤ 435 by omega, show ks + (750) ≤ 2610 by omega⟩ hf
      · rw [if_neg c3] at hf
        refine ag_qload_n 1 dL_isDone_305 rfl ?_
        refine ag_aload_n 2 dL_isDone_306 rfl ?_
        refine ag_aload 3 dL_isDone_307 rfl ?_
        refine ag_aload 4 dL_isDone_309 rfl ?_
        refine ag_aload 5 dL_isDone_311 rfl ?_
        refine ag_aload 6 dL_isDone_313 rfl ?_
        refine ag_aload 7 dL_isDone_315 rfl ?_
        refine ag_aload 8 dL_isDone_317 rfl ?_
        refine ag_aload 9 dL_isDone_319 rfl ?_
        refine ag_aload 12 dL_isDone_321 rfl ?_
        refine ag_iload 0 dL_isDone_323 rfl ?_
        refine ag_iload 15 dL_isDone_325 rfl ?_
        refine ag_bipush (30 : Int32) dL_isDone_327 (by decide) ?_
        refine ag_irem dL_isDone_329 (by decide) ?_
        refine ag_if_ne 338 dL_isDone_330 (by decide) (fun c26 => ?_) (fun c26 => ?_)
        · rw [if_neg c26] at hf
          refine ag_iload 15 dL_isDone_338 rfl ?_
          refine ag_iconst (3 : Int32) dL_isDone_340 (by decide) ?_
          refine ag_irem dL_isDone_341 (by decide) ?_
          refine ag_if_ne 355 dL_isDone_342 (by decide) (fun c27 => ?_) (fun c27 => ?_)
          · rw [if_neg c27] at hf
            refine ag_iload 15 dL_isDone_355 rfl ?_
            refine ag_iconst (3 : Int32) dL_isDone_357 (by decide) ?_
            refine ag_idiv dL_isDone_358 (by decide) ?_
            refine ag_bipush (49 : Int32) dL_isDone_359 (by decide) ?_
            refine ag_irem dL_isDone_361 (by decide) ?_
            refine ag_lv [16] rfl ?_
            exact wkL_isDone_362 hl hb hb0 _ _ _ _ _ hD ⟨show kc + (435) ≤ 435 by omega, show ks + (2610) ≤ 2610 by omega⟩ hf
          · rw [if_pos c27] at hf
            refine ag_iload 15 dL_isDone_345 rfl ?_
            refine ag_iconst (3 : Int32) dL_isDone_347 (by decide) ?_
            refine ag_idiv dL_isDone_348 (by decide) ?_
            refine ag_bipush (12 : Int32) dL_isDone_349 (by decide) ?_
            refine ag_irem dL_isDone_351 (by decide) ?_
            refine ag_goto 362 dL_isDone_352 (by decide) ?_
            refine ag_lv [16] rfl ?_
            exact wkL_isDone_362 hl hb hb0 _ _ _ _ _ hD ⟨show kc + (435) ≤ 435 by omega, show ks + (2610) ≤ 2610 by omega⟩ hf
        · rw [if_pos c26] at hf
          refine ag_bipush (49 : Int32) dL_isDone_333 (by decide) ?_
          refine ag_goto 362 dL_isDone_335 (by decide) ?_
          refine ag_lv [16] rfl ?_
          exact wkL_isDone_362 hl hb hb0 _ _ _ _ _ hD ⟨show kc + (435) ≤ 435 by omega, show ks + (2610) ≤ 2610 by omega⟩ hf
    · rw [if_neg c2] at hf
      refine ag_qload_n 1 dL_isDone_223 rfl ?_
      refine ag_aload_n 2 dL_isDone_224 rfl ?_
      refine ag_aload 3 dL_isDone_225 rfl ?_
      refine ag_aload 4 dL_isDone_227 rfl ?_
      refine ag_aload 5 dL_isDone_229 rfl ?_
      refine ag_aload 6 dL_isDone_231 rfl ?_
      refine ag_aload 7 dL_isDone_233 rfl ?_
      refine ag_aload 8 dL_isDone_235 rfl ?_
      refine ag_aload 9 dL_isDone_237 rfl ?_
      refine ag_iload 14 dL_isDone_239 rfl ?_
      refine ag_aload 9 dL_isDone_241 rfl ?_
      refine ag_iconst (0 : Int32) dL_isDone_243 (by decide) ?_
      refine ar_iald 7 5 hD rfl (by decide) (xin_v (by decide)) dL_isDone_244 ?_
      refine ag_iconst (1 : Int32) dL_isDone_245 (by decide) ?_
      refine ag_iadd dL_isDone_246 ?_
      obtain ⟨hz28, hf⟩ := hf
      refine ag_irem dL_isDone_247 hz28 ?_
      refine ag_iload 15 dL_isDone_248 rfl ?_
      refine ag_aload 9 dL_isDone_250 rfl ?_
      refine ag_iconst (0 : Int32) dL_isDone_252 (by decide) ?_
      refine ar_iald 7 5 hD rfl (by decide) (xin_v (by decide)) dL_isDone_253 ?_
      refine ag_iconst (1 : Int32) dL_isDone_254 (by decide) ?_
      refine ag_iadd dL_isDone_255 ?_
      obtain ⟨hz29, hf⟩ := hf
      refine ag_irem dL_isDone_256 hz29 ?_
      refine ag_iload 16 dL_isDone_257 rfl ?_
      refine ag_bipush (40 : Int32) dL_isDone_259 (by decide) ?_
      refine ag_irem dL_isDone_261 (by decide) ?_
      refine ag_if_ne 271 dL_isDone_262 (by decide) (fun c30 => ?_) (fun c30 => ?_)
      · rw [if_neg c30] at hf
        refine ag_iload 16 dL_isDone_271 rfl ?_
        refine ag_sipush (900 : Int32) dL_isDone_273 (by decide) ?_
        refine ag_irem dL_isDone_276 (by decide) ?_
        refine ag_lv [16] rfl ?_
        exact wkL_isDone_277 hl hb hb0 _ _ _ _ _ _ hD ⟨show kc + (125) ≤ 435 by omega, show ks + (750) ≤ 2610 by omega⟩ hf
      · rw [if_pos c30] at hf
        refine ag_sipush (3601 : Int32) dL_isDone_265 (by decide) ?_
        refine ag_goto 277 dL_isDone_268 (by decide) ?_
        refine ag_lv [16] rfl ?_
        exact wkL_isDone_277 hl hb hb0 _ _ _ _ _ _ hD ⟨show kc + (125) ≤ 435 by omega, show ks + (750) ≤ 2610 by omega⟩ hf
  · rw [if_neg c1] at hf
    refine ag_iload 15 dL_isDone_98 rfl ?_
    refine ag_bipush (30 : Int32) dL_isDone_100 (by decide) ?_
    refine ag_irem dL_isDone_102 (by decide) ?_
    refine ag_if_ne 111 dL_isDone_103 (by decide) (fun c31 => ?_) (fun c31 => ?_)
    · rw [if_neg c31] at hf
      refine ag_iload 15 dL_isDone_111 rfl ?_
      refine ag_bipush (8 : Int32) dL_isDone_113 (by decide) ?_
      refine ag_irem dL_isDone_115 (by decide) ?_
      refine ag_lv [1, 5, 9] rfl ?_
      exact wkL_isDone_116 hl hb hb0 _ _ _ hD ⟨show kc + (125) ≤ 435 by omega, show ks + (750) ≤ 2610 by omega⟩ hf
    · rw [if_pos c31] at hf
      refine ag_bipush (21 : Int32) dL_isDone_106 (by decide) ?_
      refine ag_goto 116 dL_isDone_108 (by decide) ?_
      refine ag_lv [1, 5, 9] rfl ?_
      exact wkL_isDone_116 hl hb hb0 _ _ _ hD ⟨show kc + (125) ≤ 435 by omega, show ks + (750) ≤ 2610 by omega⟩ hf
def gL_isDone_60 (lo t Ls : Nat) (xs : Nat → Int32) (K : Int32 → TH → MS → Prop) (h : TH) (L : MS) (a14 : Int32) (a15 : Int32) (a16 : Int32) (a17 : Int32) : Prop :=
  gL_isDone_90 lo t Ls xs K h L a14 a15 a16 a17 (m_I L 7 (1 : Int32).toNatClampNeg)
set_option maxHeartbeats 4000000 in
set_option maxRecDepth 100000 in
theorem wkL_isDone_60 {l : Launch} {g : xG} {x0 : xV} {b lo t Ls : Nat} {xs : Nat → Int32} {K : Int32 → TH → MS → Prop} {kc ks : Nat} (hl : l.stackTraces = false) (hb : b + 8 < lo) (hb0 : b < x0.1 ∧ x0.2 b = none) (h : TH) (L : MS) (a14 : Int32) (a15 : Int32) (a16 : Int32) (a17 : Int32) (hD : LDp lo h) (hc : kc + (435) ≤ 435 ∧ ks + (2610) ≤ 2610) (hf : gL_isDone_60 lo t Ls xs K h L a14 a15 a16 a17) : AWG (XS b Ls xs) (zR rmL_isDone g lo x0 K) ML_isDone rmL_isDone l g x0 kc ks (LW g lo h L) 60 [(0, va_rf (some t)), (3, .ref (lo + 0)), (4, .ref (lo + 1)), (5, .ref (lo + 2)), (6, .ref (lo + 3)), (7, .ref (lo + 4)), (8, .ref (lo + 5)), (9, .ref (lo + 6)), (10, .ref (lo + 7)), (11, .ref (lo + 8)), (12, .ref (lo + 9)), (13, .ref (lo + 10)), (14, .int a14), (15, .int a15), (16, .int a16), (17, .int a17)] [] := by
  rw [gL_isDone_60] at hf
  refine ag_aload 8 dL_isDone_60 rfl ?_
  refine ag_iconst (1 : Int32) dL_isDone_62 (by decide) ?_
  refine ar_iald 7 5 hD rfl (by decide) (xin_v (by decide)) dL_isDone_63 ?_
  refine ag_goto 90 dL_isDone_64 (by decide) ?_
  refine ag_lv [0, 1, 2, 3, 4, 5, 6, 7, 8, 9, 10, 11, 12, 13, 14, 15] rfl ?_
  exact wkL_isDone_90 hl hb hb0 _ _ _ _ _ _ _ hD ⟨show kc + (435) ≤ 435 by omega, show ks + (2610) ≤ 2610 by omega⟩ hf
def gL_isDone (lo t Ls : Nat) (xs : Nat → Int32) (K : Int32 → TH → MS → Prop) (h : TH) (L : MS) (a2 : Int32) : Prop :=
  gL_part lo t Ls xs (fun v2 h3 L4 => gL_part lo t Ls xs (fun v7 h8 L9 => gL_part lo t Ls xs (fun v12 h13 L14 => gL_part lo t Ls xs (fun v17 h18 L19 => (if (v7 - v7 / (20 : Int32) * (20 : Int32)) = 0 then gL_isDone_60 lo t Ls xs K h18 L19 v2 v7 v12 v17 else (if (m_I L19 7 (1 : Int32).toNatClampNeg) = 0 then gL_isDone_60 lo t Ls xs K h18 L19 v2 v7 v12 v17 else (if (v7 - v7 / (3 : Int32) * (3 : Int32)) = 0 then gL_isDone_90 lo t Ls xs K h18 L19 v2 v7 v12 v17 ((m_I L19 7 (1 : Int32).toNatClampNeg) - (1 : Int32)) else (¬ (m_I L19 7 (1 : Int32).toNatClampNeg) = 0 ∧ gL_isDone_90 lo t Ls xs K h18 L19 v2 v7 v12 v17 (v7 - v7 / (m_I L19 7 (1 : Int32).toNatClampNeg) * (m_I L19 7 (1 : Int32).toNatClampNeg))))))) h13 L14 (a2 + (3 : Int32)) (8000 : Int32)) h8 L9 (a2 + (2 : Int32)) (7000 : Int32)) h3 L4 (a2 + (1 : Int32)) (6000 : Int32)) h L a2 (50 : Int32)
set_option maxHeartbeats 4000000 in
set_option maxRecDepth 100000 in
theorem ctL_isDone {l : Launch} {g : xG} {b lo t Ls : Nat} {xs : Nat → Int32} {K : Int32 → TH → MS → Prop} (hl : l.stackTraces = false) (hb : b + 8 < lo) (h : TH) (L : MS) (a2 : Int32) (hD : LDp lo h) (hf : gL_isDone lo t Ls xs K h L a2) : RT yL_isDone ML_isDone rmL_isDone l g lo b Ls xs [va_rf (some t), .ref b, .int a2, .ref (lo + 0), .ref (lo + 1), .ref (lo + 2), .ref (lo + 3), .ref (lo + 4), .ref (lo + 5), .ref (lo + 6), .ref (lo + 7), .ref (lo + 8), .ref (lo + 9), .ref (lo + 10)] (LW g lo h L) K := by
  rw [gL_isDone] at hf
  refine RT.of (lv0 := [(0, va_rf (some t)), (1, .ref b), (2, .int a2), (3, .ref (lo + 0)), (4, .ref (lo + 1)), (5, .ref (lo + 2)), (6, .ref (lo + 3)), (7, .ref (lo + 4)), (8, .ref (lo + 5)), (9, .ref (lo + 6)), (10, .ref (lo + 7)), (11, .ref (lo + 8)), (12, .ref (lo + 9)), (13, .ref (lo + 10))]) (by decide +kernel) rfl rfl (by simp [lg_sl, cat_q, cat_i, cat_l, cat_r]) (by simp [lv_args, cat_q, cat_i, cat_l, cat_r]) hl ?_
  have hb0 := LW_no (g := g) (L := L) hD hb
  have hc : 0 + 435 ≤ 435 ∧ 0 + 2610 ≤ 2610 := ⟨by omega, by omega⟩
  refine ag_aload_n 1 dL_isDone_0 rfl ?_
  refine ag_iload_n 2 dL_isDone_1 rfl ?_
  refine ag_bipush (50 : Int32) dL_isDone_2 (by decide) ?_
  refine ag_callR (fun s a c h => h) hb0 [.ref b, .int a2, .int (50 : Int32)] 3 (ctL_part hl hb _ _ _ _ hD hf) ⟨wl4 (i := 71) rfl rfl, ciL_part⟩ (wl4 (i := 72) rfl rfl) dL_isDone_4 rfl rfl (Nat.le_of_ble_eq_true rfl) ⟨Nat.le_of_ble_eq_true rfl, Nat.le_of_ble_eq_true rfl⟩ ⟨show 0 + 0 ≤ 435 by omega, show 0 + 0 ≤ 2610 by omega⟩ (fun v2 h3 L4 hf hD5 => ?_)
  refine ag_istore [(14, .int v2), (0, va_rf (some t)), (1, .ref b), (2, .int a2), (3, .ref (lo + 0)), (4, .ref (lo + 1)), (5, .ref (lo + 2)), (6, .ref (lo + 3)), (7, .ref (lo + 4)), (8, .ref (lo + 5)), (9, .ref (lo + 6)), (10, .ref (lo + 7)), (11, .ref (lo + 8)), (12, .ref (lo + 9)), (13, .ref (lo + 10))] dL_isDone_7 (by decide) rfl ?_
  refine ag_aload_n 2 dL_isDone_9 rfl ?_
  refine ag_iload_n 3 dL_isDone_10 rfl ?_
  refine ag_iconst (1 : Int32) dL_isDone_11 (by decide) ?_
  refine ag_iadd dL_isDone_12 ?_
  refine ag_sipush (6000 : Int32) dL_isDone_13 (by decide) ?_
  refine ag_callR (fun s a c h => h) hb0 [.ref b, .int (a2 + (1 : Int32)), .int (6000 : Int32)] 3 (ctL_part hl hb _ _ _ _ hD5 hf) ⟨wl4 (i := 71) rfl rfl, ciL_part⟩ (wl4 (i := 72) rfl rfl) dL_isDone_16 rfl rfl (Nat.le_of_ble_eq_true rfl) ⟨Nat.le_of_ble_eq_true rfl, Nat.le_of_ble_eq_true rfl⟩ ⟨show 0 + 0 + 0 ≤ 435 by omega, show 0 + 0 + 0 ≤ 2610 by omega⟩ (fun v7 h8 L9 hf hD10 => ?_)
  refine ag_istore [(15, .int v7), (14, .int v2), (0, va_rf (some t)), (1, .ref b), (2, .int a2), (3, .ref (lo + 0)), (4, .ref (lo + 1)), (5, .ref (lo + 2)), (6, .ref (lo + 3)), (7, .ref (lo + 4)), (8, .ref (lo + 5)), (9, .ref (lo + 6)), (10, .ref (lo + 7)), (11, .ref (lo + 8)), (12, .ref (lo + 9)), (13, .ref (lo + 10))] dL_isDone_19 (by decide) rfl ?_
  refine ag_aload_n 3 dL_isDone_21 rfl ?_
  refine ag_iload_n 4 dL_isDone_22 rfl ?_
  refine ag_iconst (2 : Int32) dL_isDone_23 (by decide) ?_
  refine ag_iadd dL_isDone_24 ?_
  refine ag_sipush (7000 : Int32) dL_isDone_25 (by decide) ?_
  refine ag_callR (fun s a c h => h) hb0 [.ref b, .int (a2 + (2 : Int32)), .int (7000 : Int32)] 3 (ctL_part hl hb _ _ _ _ hD10 hf) ⟨wl4 (i := 71) rfl rfl, ciL_part⟩ (wl4 (i := 72) rfl rfl) dL_isDone_28 rfl rfl (Nat.le_of_ble_eq_true rfl) ⟨Nat.le_of_ble_eq_true rfl, Nat.le_of_ble_eq_true rfl⟩ ⟨show 0 + 0 + 0 + 0 ≤ 435 by omega, show 0 + 0 + 0 + 0 ≤ 2610 by omega⟩ (fun v12 h13 L14 hf hD15 => ?_)
  refine ag_istore [(16, .int v12), (15, .int v7), (14, .int v2), (0, va_rf (some t)), (1, .ref b), (2, .int a2), (3, .ref (lo + 0)), (4, .ref (lo + 1)), (5, .ref (lo + 2)), (6, .ref (lo + 3)), (7, .ref (lo + 4)), (8, .ref (lo + 5)), (9, .ref (lo + 6)), (10, .ref (lo + 7)), (11, .ref (lo + 8)), (12, .ref (lo + 9)), (13, .ref (lo + 10))] dL_isDone_31 (by decide) rfl ?_
  refine ag_aload_n 4 dL_isDone_33 rfl ?_
  refine ag_iload_n 5 dL_isDone_34 rfl ?_
  refine ag_iconst (3 : Int32) dL_isDone_35 (by decide) ?_
  refine ag_iadd dL_isDone_36 ?_
  refine ag_sipush (8000 : Int32) dL_isDone_37 (by decide) ?_
  refine ag_callR (fun s a c h => h) hb0 [.ref b, .int (a2 + (3 : Int32)), .int (8000 : Int32)] 3 (ctL_part hl hb _ _ _ _ hD15 hf) ⟨wl4 (i := 71) rfl rfl, ciL_part⟩ (wl4 (i := 72) rfl rfl) dL_isDone_40 rfl rfl (Nat.le_of_ble_eq_true rfl) ⟨Nat.le_of_ble_eq_true rfl, Nat.le_of_ble_eq_true rfl⟩ ⟨show 0 + 0 + 0 + 0 + 0 ≤ 435 by omega, show 0 + 0 + 0 + 0 + 0 ≤ 2610 by omega⟩ (fun v17 h18 L19 hf hD20 => ?_)
  refine ag_istore [(17, .int v17), (16, .int v12), (15, .int v7), (14, .int v2), (0, va_rf (some t)), (1, .ref b), (2, .int a2), (3, .ref (lo + 0)), (4, .ref (lo + 1)), (5, .ref (lo + 2)), (6, .ref (lo + 3)), (7, .ref (lo + 4)), (8, .ref (lo + 5)), (9, .ref (lo + 6)), (10, .ref (lo + 7)), (11, .ref (lo + 8)), (12, .ref (lo + 9)), (13, .ref (lo + 10))] dL_isDone_43 (by decide) rfl ?_
  refine ag_iload 2 dL_isDone_45 rfl ?_
  refine ag_bipush (20 : Int32) dL_isDone_47 (by decide) ?_
  refine ag_irem dL_isDone_49 (by decide) ?_
  refine ag_if_eq 60 dL_isDone_50 (by decide) (fun c21 => ?_) (fun c21 => ?_)
  · rw [if_pos c21] at hf
    refine ag_lv [4, 7, 8, 9, 10, 11, 12, 13, 14, 15, 16, 17, 3, 2, 1, 0] rfl ?_
    exact wkL_isDone_60 hl hb hb0 _ _ _ _ _ _ hD20 ⟨show 0 + 0 + 0 + 0 + 0 + (435) ≤ 435 by omega, show 0 + 0 + 0 + 0 + 0 + (2610) ≤ 2610 by omega⟩ hf
  · rw [if_neg c21] at hf
    refine ag_aload 14 dL_isDone_53 rfl ?_
    refine ag_iconst (1 : Int32) dL_isDone_55 (by decide) ?_
    refine ar_iald 7 5 hD20 rfl (by decide) (xin_v (by decide)) dL_isDone_56 ?_
    refine ag_if_ne 67 dL_isDone_57 (by decide) (fun c22 => ?_) (fun c22 => ?_)
    · rw [if_neg c22] at hf
      refine ag_iload 2 dL_isDone_67 rfl ?_
      refine ag_iconst (3 : Int32) dL_isDone_69 (by decide) ?_
      refine ag_irem dL_isDone_70 (by decide) ?_
      refine ag_if_ne 83 dL_isDone_71 (by decide) (fun c23 => ?_) (fun c23 => ?_)
      · rw [if_neg c23] at hf
        refine ag_iload 2 dL_isDone_83 rfl ?_
        refine ag_aload 14 dL_isDone_85 rfl ?_
        refine ag_iconst (1 : Int32) dL_isDone_87 (by decide) ?_
        refine ar_iald 7 5 hD20 rfl (by decide) (xin_v (by decide)) dL_isDone_88 ?_
        obtain ⟨hz24, hf⟩ := hf
        refine ag_irem dL_isDone_89 hz24 ?_
        refine ag_lv [4, 7, 8, 9, 10, 11, 12, 13, 14, 15, 16, 17, 3, 2, 1, 0] rfl ?_
        exact wkL_isDone_90 hl hb hb0 _ _ _ _ _ _ _ hD20 ⟨show 0 + 0 + 0 + 0 + 0 + (435) ≤ 435 by omega, show 0 + 0 + 0 + 0 + 0 + (2610) ≤ 2610 by omega⟩ hf
      · rw [if_pos c23] at hf
        refine ag_aload 14 dL_isDone_74 rfl ?_
        refine ag_iconst (1 : Int32) dL_isDone_76 (by decide) ?_
        refine ar_iald 7 5 hD20 rfl (by decide) (xin_v (by decide)) dL_isDone_77 ?_
        refine ag_iconst (1 : Int32) dL_isDone_78 (by decide) ?_
        refine ag_isub dL_isDone_79 ?_
        refine ag_goto 90 dL_isDone_80 (by decide) ?_
        refine ag_lv [4, 7, 8, 9, 10, 11, 12, 13, 14, 15, 16, 17, 3, 2, 1, 0] rfl ?_
        exact wkL_isDone_90 hl hb hb0 _ _ _ _ _ _ _ hD20 ⟨show 0 + 0 + 0 + 0 + 0 + (435) ≤ 435 by omega, show 0 + 0 + 0 + 0 + 0 + (2610) ≤ 2610 by omega⟩ hf
    · rw [if_pos c22] at hf
      refine ag_lv [4, 7, 8, 9, 10, 11, 12, 13, 14, 15, 16, 17, 3, 2, 1, 0] rfl ?_
      exact wkL_isDone_60 hl hb hb0 _ _ _ _ _ _ hD20 ⟨show 0 + 0 + 0 + 0 + 0 + (435) ≤ 435 by omega, show 0 + 0 + 0 + 0 + 0 + (2610) ≤ 2610 by omega⟩ hf
