def fX5_caught_144 (kr : Int64 → Int64 → Int64 → Int32 → Int32 → Option Bool) (k103 : Int64 → Int64 → Int64 → Int32 → Int32 → Int64 → Int32 → Option (Bool)) (a0 : Int64) (a2 : Int64) (a4 : Int64) (a6 : Int32) (a7 : Int32) (a13 : Int64) (a15 : Int32) : Option (Bool) :=
  k103 a0 a2 a4 a6 a7 a13 (a15 + (1 : Int32))
set_option maxHeartbeats 4000000 in
set_option maxRecDepth 100000 in
theorem wkX5_caught_144 {l : Launch} {g : xG} {x0 : xV} {x : xV} (hl : l.stackTraces = false) {F L F2 L2 F3 L3 F4 L4 : Nat} (hF : 10 ≤ F) (hL : 500 ≤ L) (hF2 : F2 + 1 ≤ F3) (hL2 : 8 + (18 + 11) + L2 ≤ L3) (hF3 : F3 + 1 ≤ F4) (hL3 : 8 + (16 + 11) + L3 ≤ L4) (hF30 : 10 ≤ F3) (hL30 : 500 ≤ L3) (hF4 : F4 + 1 ≤ F) (hL4 : 8 + (15 + 11) + L4 ≤ L) (hF40 : 10 ≤ F4) (hL40 : 500 ≤ L4) {kr : Int64 → Int64 → Int64 → Int32 → Int32 → Option Bool} (hkr : ∀ (b0 b2 b4 : Int64) (b6 b7 : Int32) (r : Bool), kr b0 b2 b4 b6 b7 = some r → CT yX5_caught MX5_caught { frames := F2, cells := 0, slots := 0, locals := L2 } l g [.long b0, .long b2, .long b4, .int b6, .int b7] x (.inl (some (.int (bi r)))) x) {r : Bool} (k103 : Int64 → Int64 → Int64 → Int32 → Int32 → Int64 → Int32 → Option (Bool)) (hk103 : ∀ (a0 : Int64) (a2 : Int64) (a4 : Int64) (a6 : Int32) (a7 : Int32) (a13 : Int64) (a15 : Int32), k103 a0 a2 a4 a6 a7 a13 a15 = some r → AW MX5_caught { frames := F, cells := 0, slots := 0, locals := L } l g x0 (.inl (some (.int (bi r)))) x 0 0 x 103 [(0, .long a0), (2, .long a2), (4, .long a4), (6, .int a6), (7, .int a7), (13, .long a13), (15, .int a15)] []) (a0 : Int64) (a2 : Int64) (a4 : Int64) (a6 : Int32) (a7 : Int32) (a13 : Int64) (a15 : Int32) (hf : fX5_caught_144 kr k103 a0 a2 a4 a6 a7 a13 a15 = some r) : AW MX5_caught { frames := F, cells := 0, slots := 0, locals := L } l g x0 (.inl (some (.int (bi r)))) x 0 0 x 144 [(0, .long a0), (2, .long a2), (4, .long a4), (6, .int a6), (7, .int a7), (13, .long a13), (15, .int a15)] [] := by
  rw [fX5_caught_144] at hf
  refine aw_iinc [(15, .int (a15 + (1 : Int32))), (0, .long a0), (2, .long a2), (4, .long a4), (6, .int a6), (7, .int a7), (13, .long a13)] 6 dX5_caught_144 rfl rfl (by decide) rfl ?_
  refine aw_goto 103 dX5_caught_147 (by decide) ?_
  refine aw_lv [1, 2, 3, 4, 5, 6, 0] rfl ?_
  exact hk103 _ _ _ _ _ _ _ hf
def fX5_caught_103 (kr : Int64 → Int64 → Int64 → Int32 → Int32 → Option Bool) : Nat → Int64 → Int64 → Int64 → Int32 → Int32 → Int64 → Int32 → Option (Bool)
  | 0, _, _, _, _, _, _, _ => none
  | n + 1, a0, a2, a4, a6, a7, a13, a15 =>
    (if (49 : Int32) ≤ a15 then some false else (if (a13 &&& (x_shl (1 : Int64) a15)) = (0 : Int64) then fX5_caught_144 kr (fX5_caught_103 kr n) a0 a2 a4 a6 a7 a13 a15 else (fX5_catches kr a0 a2 a4 (a13 &&& (x_shl (1 : Int64) a15)) a6 a7).bind fun q3 => (if q3 = false then fX5_caught_144 kr (fX5_caught_103 kr n) a0 a2 a4 a6 a7 a13 a15 else some true)))
set_option maxHeartbeats 4000000 in
set_option maxRecDepth 100000 in
theorem wkX5_caught_103 {l : Launch} {g : xG} {x0 : xV} {x : xV} (hl : l.stackTraces = false) {F L F2 L2 F3 L3 F4 L4 : Nat} (hF : 10 ≤ F) (hL : 500 ≤ L) (hF2 : F2 + 1 ≤ F3) (hL2 : 8 + (18 + 11) + L2 ≤ L3) (hF3 : F3 + 1 ≤ F4) (hL3 : 8 + (16 + 11) + L3 ≤ L4) (hF30 : 10 ≤ F3) (hL30 : 500 ≤ L3) (hF4 : F4 + 1 ≤ F) (hL4 : 8 + (15 + 11) + L4 ≤ L) (hF40 : 10 ≤ F4) (hL40 : 500 ≤ L4) {kr : Int64 → Int64 → Int64 → Int32 → Int32 → Option Bool} (hkr : ∀ (b0 b2 b4 : Int64) (b6 b7 : Int32) (r : Bool), kr b0 b2 b4 b6 b7 = some r → CT yX5_caught MX5_caught { frames := F2, cells := 0, slots := 0, locals := L2 } l g [.long b0, .long b2, .long b4, .int b6, .int b7] x (.inl (some (.int (bi r)))) x) {r : Bool} : ∀ (n : Nat) (a0 : Int64) (a2 : Int64) (a4 : Int64) (a6 : Int32) (a7 : Int32) (a13 : Int64) (a15 : Int32), fX5_caught_103 kr n a0 a2 a4 a6 a7 a13 a15 = some r → AW MX5_caught { frames := F, cells := 0, slots := 0, locals := L } l g x0 (.inl (some (.int (bi r)))) x 0 0 x 103 [(0, .long a0), (2, .long a2), (4, .long a4), (6, .int a6), (7, .int a7), (13, .long a13), (15, .int a15)] [] := by
  intro n
  induction n with
  | zero => intro a0 a2 a4 a6 a7 a13 a15 hf; exact absurd hf (by simp [fX5_caught_103])
  | succ n hk103 =>
    intro a0 a2 a4 a6 a7 a13 a15 hf
    rw [fX5_caught_103] at hf
    refine aw_iload 6 dX5_caught_103 rfl ?_
    refine aw_bipush (49 : Int32) dX5_caught_105 (by decide) ?_
    refine aw_icmp_ge 150 dX5_caught_107 (by decide) (fun c1 => ?_) (fun c1 => ?_)
    · rw [if_pos c1] at hf
      refine aw_iconst (0 : Int32) dX5_caught_150 (by decide) ?_
      cases hf
      exact aw_zret dX5_caught_151 rfl rfl rfl rfl ⟨Nat.le_of_ble_eq_true rfl, Nat.le_of_ble_eq_true rfl⟩
    · rw [if_neg c1] at hf
      refine aw_lload 5 dX5_caught_110 rfl ?_
      refine aw_lconst (1 : Int64) dX5_caught_112 (by decide) ?_
      refine aw_iload 6 dX5_caught_113 rfl ?_
      refine aw_lshl dX5_caught_115 ?_
      refine aw_land dX5_caught_116 ?_
      refine aw_lstore [(16, .long (a13 &&& (x_shl (1 : Int64) a15))), (0, .long a0), (2, .long a2), (4, .long a4), (6, .int a6), (7, .int a7), (13, .long a13), (15, .int a15)] dX5_caught_117 (by decide) rfl ?_
      refine aw_lload 0 dX5_caught_119 rfl ?_
      refine aw_lconst (0 : Int64) dX5_caught_121 (by decide) ?_
      refine aw_lcmp_eq 144 dX5_caught_122 dX5_caught_123 (by decide) (fun c2 => ?_) (fun c2 => ?_)
      · rw [if_pos c2] at hf
        refine aw_lv [1, 2, 3, 4, 5, 6, 7] rfl ?_
        exact wkX5_caught_144 hl hF hL hF2 hL2 hF3 hL3 hF30 hL30 hF4 hL4 hF40 hL40 hkr _ hk103 _ _ _ _ _ _ _ hf
      · rw [if_neg c2] at hf
        refine aw_lload_n 1 dX5_caught_126 rfl ?_
        refine aw_lload_n 2 dX5_caught_127 rfl ?_
        refine aw_lload 3 dX5_caught_128 rfl ?_
        refine aw_lload 0 dX5_caught_130 rfl ?_
        refine aw_iload 4 dX5_caught_132 rfl ?_
        refine aw_iload 5 dX5_caught_134 rfl ?_
        obtain ⟨q3, hq3, hf⟩ := xbind hf
        refine aw_callS [.long a0, .long a2, .long a4, .long (a13 &&& (x_shl (1 : Int64) a15)), .int a6, .int a7] 6 (ctX5_catches hl hF40 hL40 hF2 hL2 hF3 hL3 hF30 hL30 hkr _ _ _ _ _ _ hq3) ⟨wl3 (i := 180) rfl rfl, ciX5_catches⟩ (wl3 (i := 181) rfl rfl) dX5_caught_136 rfl rfl (Nat.le_of_ble_eq_true rfl) ⟨hF4, hL4⟩ ⟨Nat.le_of_ble_eq_true rfl, Nat.le_of_ble_eq_true rfl⟩ ?_
        refine aw_ifb_eq 144 dX5_caught_139 (by decide) (fun c4 => ?_) (fun c4 => ?_)
        · rw [if_pos c4] at hf
          refine aw_lv [1, 2, 3, 4, 5, 6, 7] rfl ?_
          exact wkX5_caught_144 hl hF hL hF2 hL2 hF3 hL3 hF30 hL30 hF4 hL4 hF40 hL40 hkr _ hk103 _ _ _ _ _ _ _ hf
        · rw [if_neg c4] at hf
          refine aw_iconst (1 : Int32) dX5_caught_142 (by decide) ?_
          cases hf
          exact aw_zret dX5_caught_143 rfl rfl rfl rfl ⟨Nat.le_of_ble_eq_true rfl, Nat.le_of_ble_eq_true rfl⟩
def fX5_caught_98 (kr : Int64 → Int64 → Int64 → Int32 → Int32 → Option Bool) (a0 : Int64) (a2 : Int64) (a4 : Int64) (a6 : Int32) (a7 : Int32) (s0 : Int64) : Option (Bool) :=
  fX5_caught_103 kr FU a0 a2 a4 a6 a7 s0 (0 : Int32)
set_option maxHeartbeats 4000000 in
set_option maxRecDepth 100000 in
theorem wkX5_caught_98 {l : Launch} {g : xG} {x0 : xV} {x : xV} (hl : l.stackTraces = false) {F L F2 L2 F3 L3 F4 L4 : Nat} (hF : 10 ≤ F) (hL : 500 ≤ L) (hF2 : F2 + 1 ≤ F3) (hL2 : 8 + (18 + 11) + L2 ≤ L3) (hF3 : F3 + 1 ≤ F4) (hL3 : 8 + (16 + 11) + L3 ≤ L4) (hF30 : 10 ≤ F3) (hL30 : 500 ≤ L3) (hF4 : F4 + 1 ≤ F) (hL4 : 8 + (15 + 11) + L4 ≤ L) (hF40 : 10 ≤ F4) (hL40 : 500 ≤ L4) {kr : Int64 → Int64 → Int64 → Int32 → Int32 → Option Bool} (hkr : ∀ (b0 b2 b4 : Int64) (b6 b7 : Int32) (r : Bool), kr b0 b2 b4 b6 b7 = some r → CT yX5_caught MX5_caught { frames := F2, cells := 0, slots := 0, locals := L2 } l g [.long b0, .long b2, .long b4, .int b6, .int b7] x (.inl (some (.int (bi r)))) x) {r : Bool} (a0 : Int64) (a2 : Int64) (a4 : Int64) (a6 : Int32) (a7 : Int32) (s0 : Int64) (hf : fX5_caught_98 kr a0 a2 a4 a6 a7 s0 = some r) : AW MX5_caught { frames := F, cells := 0, slots := 0, locals := L } l g x0 (.inl (some (.int (bi r)))) x 0 0 x 98 [(0, .long a0), (2, .long a2), (4, .long a4), (6, .int a6), (7, .int a7)] [.long s0] := by
  rw [fX5_caught_98] at hf
  refine aw_lstore [(13, .long s0), (0, .long a0), (2, .long a2), (4, .long a4), (6, .int a6), (7, .int a7)] dX5_caught_98 (by decide) rfl ?_
  refine aw_iconst (0 : Int32) dX5_caught_100 (by decide) ?_
  refine aw_istore [(15, .int (0 : Int32)), (13, .long s0), (0, .long a0), (2, .long a2), (4, .long a4), (6, .int a6), (7, .int a7)] dX5_caught_101 (by decide) rfl ?_
  refine aw_lv [2, 3, 4, 5, 6, 1, 0] rfl ?_
  exact wkX5_caught_103 hl hF hL hF2 hL2 hF3 hL3 hF30 hL30 hF4 hL4 hF40 hL40 hkr _ _ _ _ _ _ _ _ hf
def fX5_caught_62 (kr : Int64 → Int64 → Int64 → Int32 → Int32 → Option Bool) (a0 : Int64) (a2 : Int64) (a4 : Int64) (a6 : Int32) (a7 : Int32) (a8 : Int64) (a10 : Int64) (a12 : Int32) : Option (Bool) :=
  (if a6 < (2 : Int32) then some false else (if a12 ≤ a7 then (if a7 = (2 : Int32) then fX5_caught_98 kr a0 a2 a4 a6 a7 a10 else (fX0_libertiesOf a10 a8).bind fun q4 => fX5_caught_98 kr a0 a2 a4 a6 a7 (a10 ||| q4)) else some false))
set_option maxHeartbeats 4000000 in
set_option maxRecDepth 100000 in
theorem wkX5_caught_62 {l : Launch} {g : xG} {x0 : xV} {x : xV} (hl : l.stackTraces = false) {F L F2 L2 F3 L3 F4 L4 : Nat} (hF : 10 ≤ F) (hL : 500 ≤ L) (hF2 : F2 + 1 ≤ F3) (hL2 : 8 + (18 + 11) + L2 ≤ L3) (hF3 : F3 + 1 ≤ F4) (hL3 : 8 + (16 + 11) + L3 ≤ L4) (hF30 : 10 ≤ F3) (hL30 : 500 ≤ L3) (hF4 : F4 + 1 ≤ F) (hL4 : 8 + (15 + 11) + L4 ≤ L) (hF40 : 10 ≤ F4) (hL40 : 500 ≤ L4) {kr : Int64 → Int64 → Int64 → Int32 → Int32 → Option Bool} (hkr : ∀ (b0 b2 b4 : Int64) (b6 b7 : Int32) (r : Bool), kr b0 b2 b4 b6 b7 = some r → CT yX5_caught MX5_caught { frames := F2, cells := 0, slots := 0, locals := L2 } l g [.long b0, .long b2, .long b4, .int b6, .int b7] x (.inl (some (.int (bi r)))) x) {r : Bool} (a0 : Int64) (a2 : Int64) (a4 : Int64) (a6 : Int32) (a7 : Int32) (a8 : Int64) (a10 : Int64) (a12 : Int32) (hf : fX5_caught_62 kr a0 a2 a4 a6 a7 a8 a10 a12 = some r) : AW MX5_caught { frames := F, cells := 0, slots := 0, locals := L } l g x0 (.inl (some (.int (bi r)))) x 0 0 x 62 [(0, .long a0), (2, .long a2), (4, .long a4), (6, .int a6), (7, .int a7), (8, .long a8), (10, .long a10), (12, .int a12)] [] := by
  rw [fX5_caught_62] at hf
  refine aw_iload 3 dX5_caught_62 rfl ?_
  refine aw_iconst (2 : Int32) dX5_caught_64 (by decide) ?_
  refine aw_icmp_lt 75 dX5_caught_65 (by decide) (fun c1 => ?_) (fun c1 => ?_)
  · rw [if_pos c1] at hf
    refine aw_iconst (0 : Int32) dX5_caught_75 (by decide) ?_
    cases hf
    exact aw_zret dX5_caught_76 rfl rfl rfl rfl ⟨Nat.le_of_ble_eq_true rfl, Nat.le_of_ble_eq_true rfl⟩
  · rw [if_neg c1] at hf
    refine aw_iload 7 dX5_caught_68 rfl ?_
    refine aw_iload 4 dX5_caught_70 rfl ?_
    refine aw_icmp_le 77 dX5_caught_72 (by decide) (fun c2 => ?_) (fun c2 => ?_)
    · rw [if_pos c2] at hf
      refine aw_iload 4 dX5_caught_77 rfl ?_
      refine aw_iconst (2 : Int32) dX5_caught_79 (by decide) ?_
      refine aw_icmp_ne 88 dX5_caught_80 (by decide) (fun c3 => ?_) (fun c3 => ?_)
      · rw [if_neg c3] at hf
        refine aw_lload 6 dX5_caught_88 rfl ?_
        refine aw_lload 6 dX5_caught_90 rfl ?_
        refine aw_lload 5 dX5_caught_92 rfl ?_
        obtain ⟨q4, hq4, hf⟩ := xbind hf
        refine aw_callS [.long a10, .long a8] 2 (ctX0_libertiesOf hl _ _ hq4) ⟨wl3 (i := 176) rfl rfl, ciX0_libertiesOf⟩ (wl2 (i := 116) rfl rfl) dX5_caught_94 rfl rfl (Nat.le_of_ble_eq_true rfl) ⟨Nat.le_trans (show _ ≤ 10 from Nat.le_of_ble_eq_true rfl) hF, Nat.le_trans (show _ ≤ 500 from Nat.le_of_ble_eq_true rfl) hL⟩ ⟨Nat.le_of_ble_eq_true rfl, Nat.le_of_ble_eq_true rfl⟩ ?_
        refine aw_lor dX5_caught_97 ?_
        refine aw_lv [0, 1, 2, 3, 4] rfl ?_
        exact wkX5_caught_98 hl hF hL hF2 hL2 hF3 hL3 hF30 hL30 hF4 hL4 hF40 hL40 hkr _ _ _ _ _ _ hf
      · rw [if_pos c3] at hf
        refine aw_lload 6 dX5_caught_83 rfl ?_
        refine aw_goto 98 dX5_caught_85 (by decide) ?_
        refine aw_lv [0, 1, 2, 3, 4] rfl ?_
        exact wkX5_caught_98 hl hF hL hF2 hL2 hF3 hL3 hF30 hL30 hF4 hL4 hF40 hL40 hkr _ _ _ _ _ _ hf
    · rw [if_neg c2] at hf
      refine aw_iconst (0 : Int32) dX5_caught_75 (by decide) ?_
      cases hf
      exact aw_zret dX5_caught_76 rfl rfl rfl rfl ⟨Nat.le_of_ble_eq_true rfl, Nat.le_of_ble_eq_true rfl⟩
def fX5_caught (kr : Int64 → Int64 → Int64 → Int32 → Int32 → Option Bool) (a0 : Int64) (a2 : Int64) (a4 : Int64) (a6 : Int32) (a7 : Int32) : Option (Bool) :=
  (if a6 < (1 : Int32) then some false else (if a6 ≤ (8 : Int32) then (fX0_flood a4 a0).bind fun q3 => (fX0_libertiesOf q3 (a0 ||| a2)).bind fun q4 => (fJ_bitCount q4).bind fun q5 => (if q5 = (1 : Int32) then (fX0_leftBehind a2 a0 q4).bind fun q7 => (if q7 = (-1 : Int64) then fX5_caught_62 kr a0 a2 a4 a6 a7 (a0 ||| a2) q4 q5 else some true) else fX5_caught_62 kr a0 a2 a4 a6 a7 (a0 ||| a2) q4 q5) else some false))
set_option maxHeartbeats 4000000 in
set_option maxRecDepth 100000 in
theorem ctX5_caught {l : Launch} {g : xG} {x : xV} (hl : l.stackTraces = false) {F L F2 L2 F3 L3 F4 L4 : Nat} (hF : 10 ≤ F) (hL : 500 ≤ L) (hF2 : F2 + 1 ≤ F3) (hL2 : 8 + (18 + 11) + L2 ≤ L3) (hF3 : F3 + 1 ≤ F4) (hL3 : 8 + (16 + 11) + L3 ≤ L4) (hF30 : 10 ≤ F3) (hL30 : 500 ≤ L3) (hF4 : F4 + 1 ≤ F) (hL4 : 8 + (15 + 11) + L4 ≤ L) (hF40 : 10 ≤ F4) (hL40 : 500 ≤ L4) {kr : Int64 → Int64 → Int64 → Int32 → Int32 → Option Bool} (hkr : ∀ (b0 b2 b4 : Int64) (b6 b7 : Int32) (r : Bool), kr b0 b2 b4 b6 b7 = some r → CT yX5_caught MX5_caught { frames := F2, cells := 0, slots := 0, locals := L2 } l g [.long b0, .long b2, .long b4, .int b6, .int b7] x (.inl (some (.int (bi r)))) x) {r : Bool} (a0 : Int64) (a2 : Int64) (a4 : Int64) (a6 : Int32) (a7 : Int32) (hf : fX5_caught kr a0 a2 a4 a6 a7 = some r) : CT yX5_caught MX5_caught { frames := F, cells := 0, slots := 0, locals := L } l g [.long a0, .long a2, .long a4, .int a6, .int a7] x (.inl (some (.int (bi r)))) x := by
  rw [fX5_caught] at hf
  refine CT.of (lv0 := [(0, .long a0), (2, .long a2), (4, .long a4), (6, .int a6), (7, .int a7)]) (by decide +kernel) rfl rfl (Nat.le_of_ble_eq_true rfl) rfl hl ?_
  refine aw_iload 3 dX5_caught_0 rfl ?_
  refine aw_iconst (1 : Int32) dX5_caught_2 (by decide) ?_
  refine aw_icmp_lt 13 dX5_caught_3 (by decide) (fun c1 => ?_) (fun c1 => ?_)
  · rw [if_pos c1] at hf
    refine aw_iconst (0 : Int32) dX5_caught_13 (by decide) ?_
    cases hf
    exact aw_zret dX5_caught_14 rfl rfl rfl rfl ⟨Nat.le_of_ble_eq_true rfl, Nat.le_of_ble_eq_true rfl⟩
  · rw [if_neg c1] at hf
    refine aw_iload 3 dX5_caught_6 rfl ?_
    refine aw_bipush (8 : Int32) dX5_caught_8 (by decide) ?_
    refine aw_icmp_le 15 dX5_caught_10 (by decide) (fun c2 => ?_) (fun c2 => ?_)
    · rw [if_pos c2] at hf
      refine aw_lload_n 0 dX5_caught_15 rfl ?_
      refine aw_lload_n 1 dX5_caught_16 rfl ?_
      refine aw_lor dX5_caught_17 ?_
      refine aw_lstore [(8, .long (a0 ||| a2)), (0, .long a0), (2, .long a2), (4, .long a4), (6, .int a6), (7, .int a7)] dX5_caught_18 (by decide) rfl ?_
      refine aw_lload 3 dX5_caught_20 rfl ?_
      refine aw_lload_n 1 dX5_caught_22 rfl ?_
      obtain ⟨q3, hq3, hf⟩ := xbind hf
      refine aw_callS [.long a4, .long a0] 2 (ctX0_flood hl _ _ hq3) ⟨wl3 (i := 175) rfl rfl, ciX0_flood⟩ (wl2 (i := 112) rfl rfl) dX5_caught_23 rfl rfl (Nat.le_of_ble_eq_true rfl) ⟨Nat.le_trans (show _ ≤ 10 from Nat.le_of_ble_eq_true rfl) hF, Nat.le_trans (show _ ≤ 500 from Nat.le_of_ble_eq_true rfl) hL⟩ ⟨Nat.le_of_ble_eq_true rfl, Nat.le_of_ble_eq_true rfl⟩ ?_
      refine aw_lload 0 dX5_caught_26 rfl ?_
      obtain ⟨q4, hq4, hf⟩ := xbind hf
      refine aw_callS [.long q3, .long (a0 ||| a2)] 2 (ctX0_libertiesOf hl _ _ hq4) ⟨wl3 (i := 176) rfl rfl, ciX0_libertiesOf⟩ (wl2 (i := 116) rfl rfl) dX5_caught_28 rfl rfl (Nat.le_of_ble_eq_true rfl) ⟨Nat.le_trans (show _ ≤ 10 from Nat.le_of_ble_eq_true rfl) hF, Nat.le_trans (show _ ≤ 500 from Nat.le_of_ble_eq_true rfl) hL⟩ ⟨Nat.le_of_ble_eq_true rfl, Nat.le_of_ble_eq_true rfl⟩ ?_
      refine aw_lstore [(10, .long q4), (8, .long (a0 ||| a2)), (0, .long a0), (2, .long a2), (4, .long a4), (6, .int a6), (7, .int a7)] dX5_caught_31 (by decide) rfl ?_
      refine aw_lload 0 dX5_caught_33 rfl ?_
      obtain ⟨q5, hq5, hf⟩ := xbind hf
      refine aw_callS [.long q4] 1 (ctJ_bitCount hl _ hq5) ⟨wl3 (i := 177) rfl rfl, ciJ_bitCount⟩ (wl2 (i := 120) rfl rfl) dX5_caught_35 rfl rfl (Nat.le_of_ble_eq_true rfl) ⟨Nat.le_trans (show _ ≤ 10 from Nat.le_of_ble_eq_true rfl) hF, Nat.le_trans (show _ ≤ 500 from Nat.le_of_ble_eq_true rfl) hL⟩ ⟨Nat.le_of_ble_eq_true rfl, Nat.le_of_ble_eq_true rfl⟩ ?_
      refine aw_istore [(12, .int q5), (10, .long q4), (8, .long (a0 ||| a2)), (0, .long a0), (2, .long a2), (4, .long a4), (6, .int a6), (7, .int a7)] dX5_caught_38 (by decide) rfl ?_
      refine aw_iload 0 dX5_caught_40 rfl ?_
      refine aw_iconst (1 : Int32) dX5_caught_42 (by decide) ?_
      refine aw_icmp_ne 62 dX5_caught_43 (by decide) (fun c6 => ?_) (fun c6 => ?_)
      · rw [if_neg c6] at hf
        refine aw_lv [3, 4, 5, 6, 7, 2, 1, 0] rfl ?_
        exact wkX5_caught_62 hl hF hL hF2 hL2 hF3 hL3 hF30 hL30 hF4 hL4 hF40 hL40 hkr _ _ _ _ _ _ _ _ hf
      · rw [if_pos c6] at hf
        refine aw_lload_n 4 dX5_caught_46 rfl ?_
        refine aw_lload_n 3 dX5_caught_47 rfl ?_
        refine aw_lload 1 dX5_caught_48 rfl ?_
        obtain ⟨q7, hq7, hf⟩ := xbind hf
        refine aw_callS [.long a2, .long a0, .long q4] 3 (ctX0_leftBehind hl _ _ _ hq7) ⟨wl3 (i := 178) rfl rfl, ciX0_leftBehind⟩ (wl2 (i := 195) rfl rfl) dX5_caught_50 rfl rfl (Nat.le_of_ble_eq_true rfl) ⟨Nat.le_trans (show _ ≤ 10 from Nat.le_of_ble_eq_true rfl) hF, Nat.le_trans (show _ ≤ 500 from Nat.le_of_ble_eq_true rfl) hL⟩ ⟨Nat.le_of_ble_eq_true rfl, Nat.le_of_ble_eq_true rfl⟩ ?_
        refine aw_ldc2 (-1 : Int64) rfl (wl3 (i := 179) rfl rfl) dX5_caught_53 ?_
        refine aw_lcmp_eq 62 dX5_caught_56 dX5_caught_57 (by decide) (fun c8 => ?_) (fun c8 => ?_)
        · rw [if_pos c8] at hf
          refine aw_lv [3, 4, 5, 6, 7, 2, 1, 0] rfl ?_
          exact wkX5_caught_62 hl hF hL hF2 hL2 hF3 hL3 hF30 hL30 hF4 hL4 hF40 hL40 hkr _ _ _ _ _ _ _ _ hf
        · rw [if_neg c8] at hf
          refine aw_iconst (1 : Int32) dX5_caught_60 (by decide) ?_
          cases hf
          exact aw_zret dX5_caught_61 rfl rfl rfl rfl ⟨Nat.le_of_ble_eq_true rfl, Nat.le_of_ble_eq_true rfl⟩
    · rw [if_neg c2] at hf
      refine aw_iconst (0 : Int32) dX5_caught_13 (by decide) ?_
      cases hf
      exact aw_zret dX5_caught_14 rfl rfl rfl rfl ⟨Nat.le_of_ble_eq_true rfl, Nat.le_of_ble_eq_true rfl⟩
/-- the reading, by its depth -/
def fX5_rec : Nat → Int64 → Int64 → Int64 → Int32 → Int32 → Option Bool
  | 0, _, _, _, _, _ => none
  | d + 1, b0, b2, b4, b6, b7 => fX5_caught (fX5_rec d) b0 b2 b4 b6 b7
abbrev rmX5_rec (d : Nat) : Room := { frames := 10 + 3 * d, cells := 0, slots := 0, locals := 500 + 200 * d }
theorem ctX5_rec {l : Launch} {g : xG} {x : xV} (hl : l.stackTraces = false) : ∀ (d : Nat) (b0 b2 b4 : Int64) (b6 b7 : Int32) (r : Bool), fX5_rec d b0 b2 b4 b6 b7 = some r → CT yX5_caught MX5_caught (rmX5_rec d) l g [.long b0, .long b2, .long b4, .int b6, .int b7] x (.inl (some (.int (bi r)))) x := by
  intro d
  induction d with
  | zero => intro b0 b2 b4 b6 b7 r h; rw [fX5_rec] at h; cases h
  | succ d ih =>
    intro b0 b2 b4 b6 b7 r h
    rw [fX5_rec] at h
    exact ctX5_caught hl (F := 10 + 3 * (d + 1)) (L := 500 + 200 * (d + 1)) (F4 := 12 + 3 * d) (L4 := 634 + 200 * d) (F3 := 11 + 3 * d) (L3 := 567 + 200 * d) (F2 := 10 + 3 * d) (L2 := 500 + 200 * d) (by omega) (by omega) (by omega) (by omega) (by omega) (by omega) (by omega) (by omega) (by omega) (by omega) (by omega) (by omega) ih _ _ _ _ _ h

abbrev MX4_canBeCaught : xM := (RX4, cX4_canBeCaught, 6, (some .boolean), "canBeCaught")
abbrev rmX4_canBeCaught : Room := { frames := 38, cells := 0, slots := 0, locals := 2337 }
theorem ciX4_canBeCaught : Cond.code yX4_canBeCaught cX4_canBeCaught 6 (some .boolean) ∈ wt ∧ Cond.initialized yX4_canBeCaught.cls ∈ wt ∧ (yX4_canBeCaught.cls ≠ "java/lang/invoke/MethodHandle" ∧ yX4_canBeCaught.cls ≠ "java/lang/invoke/VarHandle" ∧ (parseMethodDescriptor yX4_canBeCaught.desc).map (fun d => d.parameters.length) = some 3) := ⟨wl3 (i := 171) rfl rfl, wl1 (i := 15) rfl rfl, by decide +kernel, by decide +kernel, by decide +kernel⟩
def fX4_canBeCaught (h : TH) (t : Nat) (a1 : Int32) (a2 : Int32) (a3 : Int32) : Option (Bool) :=
  (if t_kd h t = 4 then (if ((t_J h t 0) &&& (x_shl (1 : Int64) a1)) = (0 : Int64) then (if ((t_J h t 1) &&& (x_shl (1 : Int64) a1)) = (0 : Int64) then some false else (fX5_rec 9 (t_J h t 1) (t_J h t 0) (x_shl (1 : Int64) a1) a2 a3).bind fun q4 => (if q4 = false then some false else some true)) else (fX5_rec 9 (t_J h t 0) (t_J h t 1) (x_shl (1 : Int64) a1) a2 a3).bind fun q6 => some q6) else none)
set_option maxHeartbeats 4000000 in
set_option maxRecDepth 100000 in
theorem ctX4_canBeCaught {l : Launch} {g : xG} (hl : l.stackTraces = false) {r : Bool} (h : TH) (t : Nat) (a1 : Int32) (a2 : Int32) (a3 : Int32) (hf : fX4_canBeCaught h t a1 a2 a3 = some r) : CT yX4_canBeCaught MX4_canBeCaught rmX4_canBeCaught l g [va_rf (some t), .int a1, .int a2, .int a3] (thE g h) (.inl (some (.int (bi r)))) (thE g h) := by
  rw [fX4_canBeCaught] at hf
  refine CT.of (lv0 := [(0, va_rf (some t)), (1, .int a1), (2, .int a2), (3, .int a3)]) (by decide +kernel) rfl rfl (by simp [lg_sl, cat_q, cat_i, cat_l, cat_r]) (by simp [lv_args, cat_q, cat_i, cat_l, cat_r]) hl ?_
  refine aw_lconst (1 : Int64) dX4_canBeCaught_0 (by decide) ?_
  refine aw_iload_n 1 dX4_canBeCaught_1 rfl ?_
  refine aw_lshl dX4_canBeCaught_2 ?_
  refine aw_lstore [(4, .long (x_shl (1 : Int64) a1)), (0, va_rf (some t)), (1, .int a1), (2, .int a2), (3, .int a3)] dX4_canBeCaught_3 (by decide) rfl ?_
  refine aw_qload_n 1 dX4_canBeCaught_5 rfl ?_
  obtain ⟨hk_1, hf⟩ := xifn hf
  refine th_getJ 3 0 inX4 rfl hk_1 rfl ⟨by decide, by decide, rfl⟩ (wl2 (i := 61) rfl rfl) dX4_canBeCaught_6 ?_
  refine aw_lload 0 dX4_canBeCaught_9 rfl ?_
  refine aw_land dX4_canBeCaught_11 ?_
  refine aw_lconst (0 : Int64) dX4_canBeCaught_12 (by decide) ?_
  refine aw_lcmp_eq 33 dX4_canBeCaught_13 dX4_canBeCaught_14 (by decide) (fun c2 => ?_) (fun c2 => ?_)
  · rw [if_pos c2] at hf
    refine aw_qload_n 1 dX4_canBeCaught_33 rfl ?_
    refine th_getJ 3 1 inX4 rfl hk_1 rfl ⟨by decide, by decide, rfl⟩ (wl2 (i := 63) rfl rfl) dX4_canBeCaught_34 ?_
    refine aw_lload 0 dX4_canBeCaught_37 rfl ?_
    refine aw_land dX4_canBeCaught_39 ?_
    refine aw_lconst (0 : Int64) dX4_canBeCaught_40 (by decide) ?_
    refine aw_lcmp_eq 67 dX4_canBeCaught_41 dX4_canBeCaught_42 (by decide) (fun c3 => ?_) (fun c3 => ?_)
    · rw [if_pos c3] at hf
      refine aw_iconst (0 : Int32) dX4_canBeCaught_67 (by decide) ?_
      cases hf
      exact aw_zret dX4_canBeCaught_68 rfl rfl rfl rfl ⟨Nat.le_of_ble_eq_true rfl, Nat.le_of_ble_eq_true rfl⟩
    · rw [if_neg c3] at hf
      refine aw_qload_n 1 dX4_canBeCaught_45 rfl ?_
      refine th_getJ 3 1 inX4 rfl hk_1 rfl ⟨by decide, by decide, rfl⟩ (wl2 (i := 63) rfl rfl) dX4_canBeCaught_46 ?_
      refine aw_qload_n 1 dX4_canBeCaught_49 rfl ?_
      refine th_getJ 3 0 inX4 rfl hk_1 rfl ⟨by decide, by decide, rfl⟩ (wl2 (i := 61) rfl rfl) dX4_canBeCaught_50 ?_
      refine aw_lload 0 dX4_canBeCaught_53 rfl ?_
      refine aw_iload_n 3 dX4_canBeCaught_55 rfl ?_
      refine aw_iload_n 4 dX4_canBeCaught_56 rfl ?_
      obtain ⟨q4, hq4, hf⟩ := xbind hf
      refine aw_callSN "AtariGarden" [.long (t_J h t 1), .long (t_J h t 0), .long (x_shl (1 : Int64) a1), .int a2, .int a3] 5 (ctX5_rec hl 9 _ _ _ _ _ _ hq4) ⟨wm3 (i := 172) rfl, ciX5_caught⟩ (wl3 (i := 173) rfl rfl) dX4_canBeCaught_57 rfl rfl (Nat.le_of_ble_eq_true rfl) ⟨Nat.le_of_ble_eq_true rfl, Nat.le_of_ble_eq_true rfl⟩ ⟨Nat.le_of_ble_eq_true rfl, Nat.le_of_ble_eq_true rfl⟩ ?_
      refine aw_ifb_eq 67 dX4_canBeCaught_60 (by decide) (fun c5 => ?_) (fun c5 => ?_)
      · rw [if_pos c5] at hf
        refine aw_iconst (0 : Int32) dX4_canBeCaught_67 (by decide) ?_
        cases hf
        exact aw_zret dX4_canBeCaught_68 rfl rfl rfl rfl ⟨Nat.le_of_ble_eq_true rfl, Nat.le_of_ble_eq_true rfl⟩
      · rw [if_neg c5] at hf
        refine aw_iconst (1 : Int32) dX4_canBeCaught_63 (by decide) ?_
        refine aw_goto 68 dX4_canBeCaught_64 (by decide) ?_
        cases hf
        exact aw_zret dX4_canBeCaught_68 rfl rfl rfl rfl ⟨Nat.le_of_ble_eq_true rfl, Nat.le_of_ble_eq_true rfl⟩
  · rw [if_neg c2] at hf
    refine aw_qload_n 1 dX4_canBeCaught_17 rfl ?_
    refine th_getJ 3 0 inX4 rfl hk_1 rfl ⟨by decide, by decide, rfl⟩ (wl2 (i := 61) rfl rfl) dX4_canBeCaught_18 ?_
    refine aw_qload_n 1 dX4_canBeCaught_21 rfl ?_
    refine th_getJ 3 1 inX4 rfl hk_1 rfl ⟨by decide, by decide, rfl⟩ (wl2 (i := 63) rfl rfl) dX4_canBeCaught_22 ?_
    refine aw_lload 0 dX4_canBeCaught_25 rfl ?_
    refine aw_iload_n 3 dX4_canBeCaught_27 rfl ?_
    refine aw_iload_n 4 dX4_canBeCaught_28 rfl ?_
    obtain ⟨q6, hq6, hf⟩ := xbind hf
    refine aw_callSN "AtariGarden" [.long (t_J h t 0), .long (t_J h t 1), .long (x_shl (1 : Int64) a1), .int a2, .int a3] 5 (ctX5_rec hl 9 _ _ _ _ _ _ hq6) ⟨wm3 (i := 172) rfl, ciX5_caught⟩ (wl3 (i := 173) rfl rfl) dX4_canBeCaught_29 rfl rfl (Nat.le_of_ble_eq_true rfl) ⟨Nat.le_of_ble_eq_true rfl, Nat.le_of_ble_eq_true rfl⟩ ⟨Nat.le_of_ble_eq_true rfl, Nat.le_of_ble_eq_true rfl⟩ ?_
    cases hf
    exact aw_zret dX4_canBeCaught_32 rfl (nar_b _) rfl rfl ⟨Nat.le_of_ble_eq_true rfl, Nat.le_of_ble_eq_true rfl⟩
abbrev MX4_countLiberties : xM := (RX4, cX4_countLiberties, 2, (some .int), "countLiberties")
abbrev rmX4_countLiberties : Room := { frames := 3, cells := 0, slots := 0, locals := 74 }
theorem ciX4_countLiberties : Cond.code yX4_countLiberties cX4_countLiberties 2 (some .int) ∈ wt ∧ Cond.initialized yX4_countLiberties.cls ∈ wt ∧ (yX4_countLiberties.cls ≠ "java/lang/invoke/MethodHandle" ∧ yX4_countLiberties.cls ≠ "java/lang/invoke/VarHandle" ∧ (parseMethodDescriptor yX4_countLiberties.desc).map (fun d => d.parameters.length) = some 1) := ⟨wl4 (i := 12) rfl rfl, wl1 (i := 15) rfl rfl, by decide +kernel, by decide +kernel, by decide +kernel⟩
def fX4_countLiberties (h : TH) (t : Nat) (a1 : Int32) : Option (Int32) :=
  (if t_kd h t = 4 then (fX4_chainAt h t a1).bind fun q2 => (fX4_stones h t).bind fun q3 => (fX0_libertiesOf q2 q3).bind fun q4 => (fJ_bitCount q4).bind fun q5 => some q5 else none)
set_option maxHeartbeats 4000000 in
set_option maxRecDepth 100000 in
theorem ctX4_countLiberties {l : Launch} {g : xG} (hl : l.stackTraces = false) {r : Int32} (h : TH) (t : Nat) (a1 : Int32) (hf : fX4_countLiberties h t a1 = some r) : CT yX4_countLiberties MX4_countLiberties rmX4_countLiberties l g [va_rf (some t), .int a1] (thE g h) (.inl (some (.int r))) (thE g h) := by
  rw [fX4_countLiberties] at hf
  refine CT.of (lv0 := [(0, va_rf (some t)), (1, .int a1)]) (by decide +kernel) rfl rfl (by simp [lg_sl, cat_q, cat_i, cat_l, cat_r]) (by simp [lv_args, cat_q, cat_i, cat_l, cat_r]) hl ?_
  refine aw_qload_n 0 dX4_countLiberties_0 rfl ?_
  refine aw_iload_n 1 dX4_countLiberties_1 rfl ?_
  obtain ⟨hk_1, hf⟩ := xifn hf
  obtain ⟨q2, hq2, hf⟩ := xbind hf
  refine aw_callV 3 (some t) [.int a1] 1 rfl (thC_ob (h := h) hk_1 (by decide)) rfl rfl (ctX4_chainAt hl _ _ _ hq2) ⟨wl4 (i := 13) rfl rfl, ciX4_chainAt⟩ (wl2 (i := 108) rfl rfl) (wl2 (i := 109) rfl rfl) dX4_countLiberties_2 rfl rfl (Nat.le_of_ble_eq_true rfl) ⟨Nat.le_of_ble_eq_true rfl, Nat.le_of_ble_eq_true rfl⟩ ⟨Nat.le_of_ble_eq_true rfl, Nat.le_of_ble_eq_true rfl⟩ ?_
  refine aw_qload_n 0 dX4_countLiberties_5 rfl ?_
  obtain ⟨q3, hq3, hf⟩ := xbind hf
  refine aw_callV 3 (some t) [] 0 rfl (thC_ob (h := h) hk_1 (by decide)) rfl rfl (ctX4_stones hl _ _ hq3) ⟨wl4 (i := 14) rfl rfl, ciX4_stones⟩ (wl2 (i := 90) rfl rfl) (wl2 (i := 91) rfl rfl) dX4_countLiberties_6 rfl rfl (Nat.le_of_ble_eq_true rfl) ⟨Nat.le_of_ble_eq_true rfl, Nat.le_of_ble_eq_true rfl⟩ ⟨Nat.le_of_ble_eq_true rfl, Nat.le_of_ble_eq_true rfl⟩ ?_
  obtain ⟨q4, hq4, hf⟩ := xbind hf
  refine aw_callS [.long q2, .long q3] 2 (ctX0_libertiesOf hl _ _ hq4) ⟨wl4 (i := 15) rfl rfl, ciX0_libertiesOf⟩ (wl2 (i := 116) rfl rfl) dX4_countLiberties_9 rfl rfl (Nat.le_of_ble_eq_true rfl) ⟨Nat.le_of_ble_eq_true rfl, Nat.le_of_ble_eq_true rfl⟩ ⟨Nat.le_of_ble_eq_true rfl, Nat.le_of_ble_eq_true rfl⟩ ?_
  obtain ⟨q5, hq5, hf⟩ := xbind hf
  refine aw_callS [.long q4] 1 (ctJ_bitCount hl _ hq5) ⟨wl4 (i := 16) rfl rfl, ciJ_bitCount⟩ (wl2 (i := 120) rfl rfl) dX4_countLiberties_12 rfl rfl (Nat.le_of_ble_eq_true rfl) ⟨Nat.le_of_ble_eq_true rfl, Nat.le_of_ble_eq_true rfl⟩ ⟨Nat.le_of_ble_eq_true rfl, Nat.le_of_ble_eq_true rfl⟩ ?_
  cases hf
  exact aw_iret dX4_countLiberties_15 rfl rfl rfl ⟨Nat.le_of_ble_eq_true rfl, Nat.le_of_ble_eq_true rfl⟩
abbrev MX4_signAt : xM := (RX4, cX4_signAt, 4, (some .char), "signAt")
abbrev rmX4_signAt : Room := { frames := 0, cells := 0, slots := 0, locals := 0 }
theorem ciX4_signAt : Cond.code yX4_signAt cX4_signAt 4 (some .char) ∈ wt ∧ Cond.initialized yX4_signAt.cls ∈ wt ∧ (yX4_signAt.cls ≠ "java/lang/invoke/MethodHandle" ∧ yX4_signAt.cls ≠ "java/lang/invoke/VarHandle" ∧ (parseMethodDescriptor yX4_signAt.desc).map (fun d => d.parameters.length) = some 1) := ⟨wl3 (i := 221) rfl rfl, wl1 (i := 15) rfl rfl, by decide +kernel, by decide +kernel, by decide +kernel⟩
def fX4_signAt (h : TH) (t : Nat) (a1 : Int32) : Option (Int32) :=
  (if t_kd h t = 4 then (if ((t_J h t 0) &&& (x_shl (1 : Int64) a1)) = (0 : Int64) then (if ((t_J h t 1) &&& (x_shl (1 : Int64) a1)) = (0 : Int64) then xchar (46 : Int32) else xchar (79 : Int32)) else xchar (88 : Int32)) else none)
set_option maxHeartbeats 4000000 in
set_option maxRecDepth 100000 in
theorem ctX4_signAt {l : Launch} {g : xG} (hl : l.stackTraces = false) {r : Int32} (h : TH) (t : Nat) (a1 : Int32) (hf : fX4_signAt h t a1 = some r) : CT yX4_signAt MX4_signAt rmX4_signAt l g [va_rf (some t), .int a1] (thE g h) (.inl (some (.int r))) (thE g h) := by
  rw [fX4_signAt] at hf
  refine CT.of (lv0 := [(0, va_rf (some t)), (1, .int a1)]) (by decide +kernel) rfl rfl (by simp [lg_sl, cat_q, cat_i, cat_l, cat_r]) (by simp [lv_args, cat_q, cat_i, cat_l, cat_r]) hl ?_
  refine aw_lconst (1 : Int64) dX4_signAt_0 (by decide) ?_
  refine aw_iload_n 1 dX4_signAt_1 rfl ?_
  refine aw_lshl dX4_signAt_2 ?_
  refine aw_lstore_n [(2, .long (x_shl (1 : Int64) a1)), (0, va_rf (some t)), (1, .int a1)] dX4_signAt_3 rfl (by decide) rfl ?_
  refine aw_qload_n 1 dX4_signAt_4 rfl ?_
  obtain ⟨hk_1, hf⟩ := xifn hf
  refine th_getJ 3 0 inX4 rfl hk_1 rfl ⟨by decide, by decide, rfl⟩ (wl2 (i := 61) rfl rfl) dX4_signAt_5 ?_
  refine aw_lload_n 0 dX4_signAt_8 rfl ?_
  refine aw_land dX4_signAt_9 ?_
  refine aw_lconst (0 : Int64) dX4_signAt_10 (by decide) ?_
  refine aw_lcmp_eq 18 dX4_signAt_11 dX4_signAt_12 (by decide) (fun c2 => ?_) (fun c2 => ?_)
  · rw [if_pos c2] at hf
    refine aw_qload_n 1 dX4_signAt_18 rfl ?_
    refine th_getJ 3 1 inX4 rfl hk_1 rfl ⟨by decide, by decide, rfl⟩ (wl2 (i := 63) rfl rfl) dX4_signAt_19 ?_
    refine aw_lload_n 0 dX4_signAt_22 rfl ?_
    refine aw_land dX4_signAt_23 ?_
    refine aw_lconst (0 : Int64) dX4_signAt_24 (by decide) ?_
    refine aw_lcmp_eq 34 dX4_signAt_25 dX4_signAt_26 (by decide) (fun c3 => ?_) (fun c3 => ?_)
    · rw [if_pos c3] at hf
      refine aw_bipush (46 : Int32) dX4_signAt_34 (by decide) ?_
      exact aw_cretb dX4_signAt_36 rfl hf rfl rfl ⟨Nat.le_of_ble_eq_true rfl, Nat.le_of_ble_eq_true rfl⟩
    · rw [if_neg c3] at hf
      refine aw_bipush (79 : Int32) dX4_signAt_29 (by decide) ?_
      refine aw_goto 36 dX4_signAt_31 (by decide) ?_
      exact aw_cretb dX4_signAt_36 rfl hf rfl rfl ⟨Nat.le_of_ble_eq_true rfl, Nat.le_of_ble_eq_true rfl⟩
  · rw [if_neg c2] at hf
    refine aw_bipush (88 : Int32) dX4_signAt_15 (by decide) ?_
    exact aw_cretb dX4_signAt_17 rfl hf rfl rfl ⟨Nat.le_of_ble_eq_true rfl, Nat.le_of_ble_eq_true rfl⟩
abbrev MX4_stonesOf : xM := (RX4, cX4_stonesOf, 2, (some .long), "stonesOf")
abbrev rmX4_stonesOf : Room := { frames := 0, cells := 0, slots := 0, locals := 0 }
theorem ciX4_stonesOf : Cond.code yX4_stonesOf cX4_stonesOf 2 (some .long) ∈ wt ∧ Cond.initialized yX4_stonesOf.cls ∈ wt ∧ (yX4_stonesOf.cls ≠ "java/lang/invoke/MethodHandle" ∧ yX4_stonesOf.cls ≠ "java/lang/invoke/VarHandle" ∧ (parseMethodDescriptor yX4_stonesOf.desc).map (fun d => d.parameters.length) = some 1) := ⟨wl2 (i := 193) rfl rfl, wl1 (i := 15) rfl rfl, by decide +kernel, by decide +kernel, by decide +kernel⟩
def fX4_stonesOf (h : TH) (t : Nat) (a1 : Int32) : Option (Int64) :=
  (if a1 = 0 then (if t_kd h t = 4 then some (t_J h t 0) else none) else (if t_kd h t = 4 then some (t_J h t 1) else none))
set_option maxHeartbeats 4000000 in
set_option maxRecDepth 100000 in
theorem ctX4_stonesOf {l : Launch} {g : xG} (hl : l.stackTraces = false) {r : Int64} (h : TH) (t : Nat) (a1 : Int32) (hf : fX4_stonesOf h t a1 = some r) : CT yX4_stonesOf MX4_stonesOf rmX4_stonesOf l g [va_rf (some t), .int a1] (thE g h) (.inl (some (.long r))) (thE g h) := by
  rw [fX4_stonesOf] at hf
  refine CT.of (lv0 := [(0, va_rf (some t)), (1, .int a1)]) (by decide +kernel) rfl rfl (by simp [lg_sl, cat_q, cat_i, cat_l, cat_r]) (by simp [lv_args, cat_q, cat_i, cat_l, cat_r]) hl ?_
  refine aw_iload_n 1 dX4_stonesOf_0 rfl ?_
  refine aw_if_ne 11 dX4_stonesOf_1 (by decide) (fun c1 => ?_) (fun c1 => ?_)
  · rw [if_neg c1] at hf
    refine aw_qload_n 0 dX4_stonesOf_11 rfl ?_
    obtain ⟨hk_2, hf⟩ := xifn hf
    refine th_getJ 3 1 inX4 rfl hk_2 rfl ⟨by decide, by decide, rfl⟩ (wl2 (i := 63) rfl rfl) dX4_stonesOf_12 ?_
    cases hf
    exact aw_lret dX4_stonesOf_15 rfl rfl rfl ⟨Nat.le_of_ble_eq_true rfl, Nat.le_of_ble_eq_true rfl⟩
  · rw [if_pos c1] at hf
    refine aw_qload_n 0 dX4_stonesOf_4 rfl ?_
    obtain ⟨hk_3, hf⟩ := xifn hf
    refine th_getJ 3 0 inX4 rfl hk_3 rfl ⟨by decide, by decide, rfl⟩ (wl2 (i := 61) rfl rfl) dX4_stonesOf_5 ?_
    refine aw_goto 15 dX4_stonesOf_8 (by decide) ?_
    cases hf
    exact aw_lret dX4_stonesOf_15 rfl rfl rfl ⟨Nat.le_of_ble_eq_true rfl, Nat.le_of_ble_eq_true rfl⟩
abbrev MX4_wasThere : xM := (RX4, cX4_wasThere, 6, (some .boolean), "wasThere")
abbrev rmX4_wasThere : Room := { frames := 0, cells := 0, slots := 0, locals := 0 }
theorem ciX4_wasThere : Cond.code yX4_wasThere cX4_wasThere 6 (some .boolean) ∈ wt ∧ Cond.initialized yX4_wasThere.cls ∈ wt ∧ (yX4_wasThere.cls ≠ "java/lang/invoke/MethodHandle" ∧ yX4_wasThere.cls ≠ "java/lang/invoke/VarHandle" ∧ (parseMethodDescriptor yX4_wasThere.desc).map (fun d => d.parameters.length) = some 2) := ⟨wl2 (i := 203) rfl rfl, wl1 (i := 15) rfl rfl, by decide +kernel, by decide +kernel, by decide +kernel⟩
def fX4_wasThere_30 (k3 : TH → Nat → Int64 → Int64 → Option Nat → Option (Bool)) (h : TH) (t : Nat) (a1 : Int64) (a3 : Int64) (a5 : Option Nat) : Option (Bool) :=
  a5.bind fun p1 => (if t_kd h p1 = 4 then k3 h t a1 a3 (t_R h p1 5) else none)
set_option maxHeartbeats 4000000 in
set_option maxRecDepth 100000 in
theorem wkX4_wasThere_30 {l : Launch} {g : xG} {x0 : xV} (hl : l.stackTraces = false) {r : Bool} (k3 : TH → Nat → Int64 → Int64 → Option Nat → Option (Bool)) (hk3 : ∀ (h : TH) (t : Nat) (a1 : Int64) (a3 : Int64) (a5 : Option Nat), k3 h t a1 a3 a5 = some r → AW MX4_wasThere rmX4_wasThere l g x0 (.inl (some (.int (bi r)))) (thE g h) 0 0 (thE g h) 3 [(1, .long a1), (3, .long a3), (5, va_rf a5)] []) (h : TH) (t : Nat) (a1 : Int64) (a3 : Int64) (a5 : Option Nat) (hf : fX4_wasThere_30 k3 h t a1 a3 a5 = some r) : AW MX4_wasThere rmX4_wasThere l g x0 (.inl (some (.int (bi r)))) (thE g h) 0 0 (thE g h) 30 [(1, .long a1), (3, .long a3), (5, va_rf a5)] [] := by
  rw [fX4_wasThere_30] at hf
  refine aw_qload 2 dX4_wasThere_30 rfl ?_
  obtain ⟨p1, hp1, hf⟩ := xbind hf
  obtain ⟨hk_2, hf⟩ := xifn hf
  refine th_getR 3 5 inX4 hp1 hk_2 rfl ⟨by decide, by decide, rfl⟩ (wl2 (i := 73) rfl rfl) dX4_wasThere_32 ?_
  refine aw_qstore [(5, va_rf (t_R h p1 5)), (1, .long a1), (3, .long a3)] dX4_wasThere_35 (by decide) rfl ?_
  refine aw_goto 3 dX4_wasThere_37 (by decide) ?_
  refine aw_lv [1, 2, 0] rfl ?_
  exact hk3 _ _ _ _ _ hf
def fX4_wasThere_3 : Nat → TH → Nat → Int64 → Int64 → Option Nat → Option (Bool)
  | 0, _, _, _, _, _ => none
  | n + 1, h, t, a1, a3, a5 =>
    (if a5 = none then some false else a5.bind fun p2 => (if t_kd h p2 = 4 then (if (t_J h p2 0) = a1 then (if (t_J h p2 1) = a3 then some true else fX4_wasThere_30 (fX4_wasThere_3 n) h t a1 a3 a5) else fX4_wasThere_30 (fX4_wasThere_3 n) h t a1 a3 a5) else none))
set_option maxHeartbeats 4000000 in
set_option maxRecDepth 100000 in
theorem wkX4_wasThere_3 {l : Launch} {g : xG} {x0 : xV} (hl : l.stackTraces = false) {r : Bool} : ∀ (n : Nat) (h : TH) (t : Nat) (a1 : Int64) (a3 : Int64) (a5 : Option Nat), fX4_wasThere_3 n h t a1 a3 a5 = some r → AW MX4_wasThere rmX4_wasThere l g x0 (.inl (some (.int (bi r)))) (thE g h) 0 0 (thE g h) 3 [(1, .long a1), (3, .long a3), (5, va_rf a5)] [] := by
  intro n
  induction n with
  | zero => intro h t a1 a3 a5 hf; exact absurd hf (by simp [fX4_wasThere_3])
  | succ n hk3 =>
    intro h t a1 a3 a5 hf
    rw [fX4_wasThere_3] at hf
    refine aw_qload 2 dX4_wasThere_3 rfl ?_
    refine aw_ifnull 40 dX4_wasThere_5 (by decide) (fun c1 => ?_) (fun c1 => ?_)
    · rw [if_pos c1] at hf
      refine aw_iconst (0 : Int32) dX4_wasThere_40 (by decide) ?_
      cases hf
      exact aw_zret dX4_wasThere_41 rfl rfl rfl rfl ⟨Nat.le_of_ble_eq_true rfl, Nat.le_of_ble_eq_true rfl⟩
    · rw [if_neg c1] at hf
      refine aw_qload 2 dX4_wasThere_8 rfl ?_
      obtain ⟨p2, hp2, hf⟩ := xbind hf
      obtain ⟨hk_3, hf⟩ := xifn hf
      refine th_getJ 3 0 inX4 hp2 hk_3 rfl ⟨by decide, by decide, rfl⟩ (wl2 (i := 61) rfl rfl) dX4_wasThere_10 ?_
      refine aw_lload_n 0 dX4_wasThere_13 rfl ?_
      refine aw_lcmp_ne 30 dX4_wasThere_14 dX4_wasThere_15 (by decide) (fun c4 => ?_) (fun c4 => ?_)
      · rw [if_neg c4] at hf
        refine aw_lv [0, 1, 2] rfl ?_
        exact wkX4_wasThere_30 hl _ hk3 _ _ _ _ _ hf
      · rw [if_pos c4] at hf
        refine aw_qload 2 dX4_wasThere_18 rfl ?_
        refine th_getJ 3 1 inX4 hp2 hk_3 rfl ⟨by decide, by decide, rfl⟩ (wl2 (i := 63) rfl rfl) dX4_wasThere_20 ?_
        refine aw_lload_n 1 dX4_wasThere_23 rfl ?_
        refine aw_lcmp_ne 30 dX4_wasThere_24 dX4_wasThere_25 (by decide) (fun c5 => ?_) (fun c5 => ?_)
        · rw [if_neg c5] at hf
          refine aw_lv [0, 1, 2] rfl ?_
          exact wkX4_wasThere_30 hl _ hk3 _ _ _ _ _ hf
        · rw [if_pos c5] at hf
          refine aw_iconst (1 : Int32) dX4_wasThere_28 (by decide) ?_
          cases hf
          exact aw_zret dX4_wasThere_29 rfl rfl rfl rfl ⟨Nat.le_of_ble_eq_true rfl, Nat.le_of_ble_eq_true rfl⟩
def fX4_wasThere (h : TH) (t : Nat) (a1 : Int64) (a3 : Int64) : Option (Bool) :=
  fX4_wasThere_3 FU h t a1 a3 (some t)
set_option maxHeartbeats 4000000 in
set_option maxRecDepth 100000 in
theorem ctX4_wasThere {l : Launch} {g : xG} (hl : l.stackTraces = false) {r : Bool} (h : TH) (t : Nat) (a1 : Int64) (a3 : Int64) (hf : fX4_wasThere h t a1 a3 = some r) : CT yX4_wasThere MX4_wasThere rmX4_wasThere l g [va_rf (some t), .long a1, .long a3] (thE g h) (.inl (some (.int (bi r)))) (thE g h) := by
  rw [fX4_wasThere] at hf
  refine CT.of (lv0 := [(0, va_rf (some t)), (1, .long a1), (3, .long a3)]) (by decide +kernel) rfl rfl (by simp [lg_sl, cat_q, cat_i, cat_l, cat_r]) (by simp [lv_args, cat_q, cat_i, cat_l, cat_r]) hl ?_
  refine aw_qload_n 0 dX4_wasThere_0 rfl ?_
  refine aw_qstore [(5, va_rf (some t)), (0, va_rf (some t)), (1, .long a1), (3, .long a3)] dX4_wasThere_1 (by decide) rfl ?_
  refine aw_lv [2, 3, 0] rfl ?_
  exact wkX4_wasThere_3 hl _ _ _ _ _ _ hf
abbrev MX4_withStone : xM := (RX4, cX4_withStone, 14, (some (.object "AtariGarden$Position")), "withStone")
abbrev rmX4_withStone : Room := { frames := 3, cells := 1, slots := 6, locals := 82 }
theorem ciX4_withStone : Cond.code yX4_withStone cX4_withStone 14 (some (.object "AtariGarden$Position")) ∈ wt ∧ Cond.initialized yX4_withStone.cls ∈ wt ∧ (yX4_withStone.cls ≠ "java/lang/invoke/MethodHandle" ∧ yX4_withStone.cls ≠ "java/lang/invoke/VarHandle" ∧ (parseMethodDescriptor yX4_withStone.desc).map (fun d => d.parameters.length) = some 1) := ⟨wl2 (i := 189) rfl rfl, wl1 (i := 15) rfl rfl, by decide +kernel, by decide +kernel, by decide +kernel⟩
def fX4_withStone_79 (h : TH) (t : Nat) (a10 : Int64) (s0 : Int64) : Option (Option Nat × TH) :=
  (if t_kd h t = 4 then (fX4_wasThere h t a10 s0).bind fun q2 => (if q2 = false then (if t_kd (s_N h 4 0) t = 4 then (fX4_init (s_N h 4 0) (t_sz h) a10 s0 ((1 : Int32) - (t_I (s_N h 4 0) t 2)) (0 : Int32) (some t)).bind fun q5 => some ((some (t_sz h)), q5) else none) else some (none, h)) else none)
set_option maxHeartbeats 4000000 in
set_option maxRecDepth 100000 in
theorem wkX4_withStone_79 {l : Launch} {g : xG} {x0 : xV} (hl : l.stackTraces = false) {r : Option Nat × TH} (h : TH) (t : Nat) (a10 : Int64) (s0 : Int64) (hf : fX4_withStone_79 h t a10 s0 = some r) : AW MX4_withStone rmX4_withStone l g x0 (.inl (some (va_rf r.1))) (thE g r.2) 0 0 (thE g h) 79 [(0, va_rf (some t)), (10, .long a10)] [.long s0] := by
  rw [fX4_withStone_79] at hf
  refine aw_lstore [(12, .long s0), (0, va_rf (some t)), (10, .long a10)] dX4_withStone_79 (by decide) rfl ?_
  refine aw_qload_n 1 dX4_withStone_81 rfl ?_
  refine aw_lload 2 dX4_withStone_82 rfl ?_
  refine aw_lload 0 dX4_withStone_84 rfl ?_
  obtain ⟨hk_1, hf⟩ := xifn hf
  obtain ⟨q2, hq2, hf⟩ := xbind hf
  refine aw_callV 3 (some t) [.long a10, .long s0] 2 rfl (thC_ob (h := h) hk_1 (by decide)) rfl rfl (ctX4_wasThere hl _ _ _ _ hq2) ⟨wl2 (i := 200) rfl rfl, ciX4_wasThere⟩ (wl2 (i := 202) rfl rfl) (wl0 (i := 9) rfl rfl) dX4_withStone_86 rfl rfl (Nat.le_of_ble_eq_true rfl) ⟨Nat.le_of_ble_eq_true rfl, Nat.le_of_ble_eq_true rfl⟩ ⟨Nat.le_of_ble_eq_true rfl, Nat.le_of_ble_eq_true rfl⟩ ?_
  refine aw_ifb_eq 96 dX4_withStone_89 (by decide) (fun c3 => ?_) (fun c3 => ?_)
  · rw [if_pos c3] at hf
    refine th_new 3 xtX4 rfl (by decide) (wl2 (i := 55) rfl rfl) (wl2 (i := 56) rfl rfl) (wl1 (i := 15) rfl rfl) (by decide) ⟨Nat.le_of_ble_eq_true rfl, Nat.le_of_ble_eq_true rfl⟩ dX4_withStone_96 ?_
    refine aw_dup dX4_withStone_99 (cat_q _) ?_
    refine aw_lload 2 dX4_withStone_100 rfl ?_
    refine aw_lload 0 dX4_withStone_102 rfl ?_
    refine aw_iconst (1 : Int32) dX4_withStone_104 (by decide) ?_
    refine aw_qload_n 1 dX4_withStone_105 rfl ?_
    obtain ⟨hk_4, hf⟩ := xifn hf
    refine th_getI 3 2 inX4 rfl hk_4 rfl ⟨by decide, by decide, rfl⟩ (wl2 (i := 65) rfl rfl) dX4_withStone_106 ?_
    refine aw_isub dX4_withStone_109 ?_
    refine aw_iconst (0 : Int32) dX4_withStone_110 (by decide) ?_
    refine aw_qload_n 1 dX4_withStone_111 rfl ?_
    obtain ⟨q5, hq5, hf⟩ := xbind hf
    refine aw_callI _ [.long a10, .long s0, .int ((1 : Int32) - (t_I (s_N h 4 0) t 2)), .int (0 : Int32), va_rf (some t)] 5 rfl rfl (ctX4_init hl _ _ _ _ _ _ _ hq5) ⟨wl2 (i := 57) rfl rfl, ciX4_init⟩ (wl2 (i := 58) rfl rfl) dX4_withStone_112 rfl rfl (by simp [cat_q, cat_i, cat_l, cat_r]) ⟨Nat.le_of_ble_eq_true rfl, Nat.le_of_ble_eq_true rfl⟩ ⟨Nat.le_of_ble_eq_true rfl, Nat.le_of_ble_eq_true rfl⟩ ?_
    cases hf
    exact aw_aret "AtariGarden$Position" dX4_withStone_115 rfl rfl rfl ⟨Nat.le_of_ble_eq_true rfl, Nat.le_of_ble_eq_true rfl⟩
  · rw [if_neg c3] at hf
    refine aw_null dX4_withStone_92 ?_
    refine aw_goto 115 dX4_withStone_93 (by decide) ?_
    cases hf
    exact aw_aret "AtariGarden$Position" dX4_withStone_115 rfl rfl rfl ⟨Nat.le_of_ble_eq_true rfl, Nat.le_of_ble_eq_true rfl⟩
def fX4_withStone_63 (h : TH) (t : Nat) (a6 : Int64) (a8 : Int64) (s0 : Int64) : Option (Option Nat × TH) :=
  (if t_kd h t = 4 then (if (t_I h t 2) = 0 then fX4_withStone_79 h t s0 a6 else fX4_withStone_79 h t s0 a8) else none)
set_option maxHeartbeats 4000000 in
set_option maxRecDepth 100000 in
theorem wkX4_withStone_63 {l : Launch} {g : xG} {x0 : xV} (hl : l.stackTraces = false) {r : Option Nat × TH} (h : TH) (t : Nat) (a6 : Int64) (a8 : Int64) (s0 : Int64) (hf : fX4_withStone_63 h t a6 a8 s0 = some r) : AW MX4_withStone rmX4_withStone l g x0 (.inl (some (va_rf r.1))) (thE g r.2) 0 0 (thE g h) 63 [(0, va_rf (some t)), (6, .long a6), (8, .long a8)] [.long s0] := by
  rw [fX4_withStone_63] at hf
  refine aw_lstore [(10, .long s0), (0, va_rf (some t)), (6, .long a6), (8, .long a8)] dX4_withStone_63 (by decide) rfl ?_
  refine aw_qload_n 1 dX4_withStone_65 rfl ?_
  obtain ⟨hk_1, hf⟩ := xifn hf
  refine th_getI 3 2 inX4 rfl hk_1 rfl ⟨by decide, by decide, rfl⟩ (wl2 (i := 65) rfl rfl) dX4_withStone_66 ?_
  refine aw_if_ne 77 dX4_withStone_69 (by decide) (fun c2 => ?_) (fun c2 => ?_)
  · rw [if_neg c2] at hf
    refine aw_lload 3 dX4_withStone_77 rfl ?_
    refine aw_lv [1, 0] rfl ?_
    exact wkX4_withStone_79 hl _ _ _ _ hf
  · rw [if_pos c2] at hf
    refine aw_lload 2 dX4_withStone_72 rfl ?_
    refine aw_goto 79 dX4_withStone_74 (by decide) ?_
    refine aw_lv [1, 0] rfl ?_
    exact wkX4_withStone_79 hl _ _ _ _ hf
def fX4_withStone (h : TH) (t : Nat) (a1 : Int32) : Option (Option Nat × TH) :=
  (if t_kd h t = 4 then (fX4_stonesOf h t (t_I h t 2)).bind fun q2 => (fX4_stonesOf h t ((1 : Int32) - (t_I h t 2))).bind fun q3 => (fX0_leftBehind q2 q3 (x_shl (1 : Int64) a1)).bind fun q4 => (if q4 = (-1 : Int64) then some (none, h) else (if (t_I h t 2) = 0 then fX4_withStone_63 h t q4 (q2 ||| (x_shl (1 : Int64) a1)) (q2 ||| (x_shl (1 : Int64) a1)) else fX4_withStone_63 h t q4 (q2 ||| (x_shl (1 : Int64) a1)) q4)) else none)
set_option maxHeartbeats 4000000 in
set_option maxRecDepth 100000 in
theorem ctX4_withStone {l : Launch} {g : xG} (hl : l.stackTraces = false) {r : Option Nat × TH} (h : TH) (t : Nat) (a1 : Int32) (hf : fX4_withStone h t a1 = some r) : CT yX4_withStone MX4_withStone rmX4_withStone l g [va_rf (some t), .int a1] (thE g h) (.inl (some (va_rf r.1))) (thE g r.2) := by
  rw [fX4_withStone] at hf
  refine CT.of (lv0 := [(0, va_rf (some t)), (1, .int a1)]) (by decide +kernel) rfl rfl (by simp [lg_sl, cat_q, cat_i, cat_l, cat_r]) (by simp [lv_args, cat_q, cat_i, cat_l, cat_r]) hl ?_
  refine aw_lconst (1 : Int64) dX4_withStone_0 (by decide) ?_
  refine aw_iload_n 1 dX4_withStone_1 rfl ?_
  refine aw_lshl dX4_withStone_2 ?_
  refine aw_lstore_n [(2, .long (x_shl (1 : Int64) a1)), (0, va_rf (some t)), (1, .int a1)] dX4_withStone_3 rfl (by decide) rfl ?_
  refine aw_qload_n 1 dX4_withStone_4 rfl ?_
  refine aw_qload_n 1 dX4_withStone_5 rfl ?_
  obtain ⟨hk_1, hf⟩ := xifn hf
  refine th_getI 3 2 inX4 rfl hk_1 rfl ⟨by decide, by decide, rfl⟩ (wl2 (i := 65) rfl rfl) dX4_withStone_6 ?_
  obtain ⟨q2, hq2, hf⟩ := xbind hf
  refine aw_callV 3 (some t) [.int (t_I h t 2)] 1 rfl (thC_ob (h := h) hk_1 (by decide)) rfl rfl (ctX4_stonesOf hl _ _ _ hq2) ⟨wl2 (i := 190) rfl rfl, ciX4_stonesOf⟩ (wl2 (i := 191) rfl rfl) (wl2 (i := 192) rfl rfl) dX4_withStone_9 rfl rfl (Nat.le_of_ble_eq_true rfl) ⟨Nat.le_of_ble_eq_true rfl, Nat.le_of_ble_eq_true rfl⟩ ⟨Nat.le_of_ble_eq_true rfl, Nat.le_of_ble_eq_true rfl⟩ ?_
  refine aw_lstore [(4, .long q2), (2, .long (x_shl (1 : Int64) a1)), (0, va_rf (some t)), (1, .int a1)] dX4_withStone_12 (by decide) rfl ?_
  refine aw_lload 0 dX4_withStone_14 rfl ?_
  refine aw_qload_n 2 dX4_withStone_16 rfl ?_
  refine aw_iconst (1 : Int32) dX4_withStone_17 (by decide) ?_
  refine aw_qload_n 2 dX4_withStone_18 rfl ?_
  refine th_getI 3 2 inX4 rfl hk_1 rfl ⟨by decide, by decide, rfl⟩ (wl2 (i := 65) rfl rfl) dX4_withStone_19 ?_
  refine aw_isub dX4_withStone_22 ?_
  obtain ⟨q3, hq3, hf⟩ := xbind hf
  refine aw_callV 3 (some t) [.int ((1 : Int32) - (t_I h t 2))] 1 rfl (thC_ob (h := h) hk_1 (by decide)) rfl rfl (ctX4_stonesOf hl _ _ _ hq3) ⟨wl2 (i := 190) rfl rfl, ciX4_stonesOf⟩ (wl2 (i := 191) rfl rfl) (wl2 (i := 192) rfl rfl) dX4_withStone_23 rfl rfl (Nat.le_of_ble_eq_true rfl) ⟨Nat.le_of_ble_eq_true rfl, Nat.le_of_ble_eq_true rfl⟩ ⟨Nat.le_of_ble_eq_true rfl, Nat.le_of_ble_eq_true rfl⟩ ?_
  refine aw_lload_n 1 dX4_withStone_26 rfl ?_
  obtain ⟨q4, hq4, hf⟩ := xbind hf
  refine aw_callS [.long q2, .long q3, .long (x_shl (1 : Int64) a1)] 3 (ctX0_leftBehind hl _ _ _ hq4) ⟨wl2 (i := 194) rfl rfl, ciX0_leftBehind⟩ (wl2 (i := 195) rfl rfl) dX4_withStone_27 rfl rfl (Nat.le_of_ble_eq_true rfl) ⟨Nat.le_of_ble_eq_true rfl, Nat.le_of_ble_eq_true rfl⟩ ⟨Nat.le_of_ble_eq_true rfl, Nat.le_of_ble_eq_true rfl⟩ ?_
  refine aw_lstore [(6, .long q4), (4, .long q2), (2, .long (x_shl (1 : Int64) a1)), (0, va_rf (some t)), (1, .int a1)] dX4_withStone_30 (by decide) rfl ?_
  refine aw_lload 0 dX4_withStone_32 rfl ?_
  refine aw_ldc2 (-1 : Int64) rfl (wl2 (i := 199) rfl rfl) dX4_withStone_34 ?_
  refine aw_lcmp_ne 43 dX4_withStone_37 dX4_withStone_38 (by decide) (fun c5 => ?_) (fun c5 => ?_)
  · rw [if_neg c5] at hf
    refine aw_lload 1 dX4_withStone_43 rfl ?_
    refine aw_lload_n 2 dX4_withStone_45 rfl ?_
    refine aw_lor dX4_withStone_46 ?_
    refine aw_lstore [(8, .long (q2 ||| (x_shl (1 : Int64) a1))), (6, .long q4), (4, .long q2), (2, .long (x_shl (1 : Int64) a1)), (0, va_rf (some t)), (1, .int a1)] dX4_withStone_47 (by decide) rfl ?_
    refine aw_qload_n 4 dX4_withStone_49 rfl ?_
    refine th_getI 3 2 inX4 rfl hk_1 rfl ⟨by decide, by decide, rfl⟩ (wl2 (i := 65) rfl rfl) dX4_withStone_50 ?_
    refine aw_if_ne 61 dX4_withStone_53 (by decide) (fun c6 => ?_) (fun c6 => ?_)
    · rw [if_neg c6] at hf
      refine aw_lload 1 dX4_withStone_61 rfl ?_
      refine aw_lv [4, 1, 0] rfl ?_
      exact wkX4_withStone_63 hl _ _ _ _ _ hf
    · rw [if_pos c6] at hf
      refine aw_lload 0 dX4_withStone_56 rfl ?_
      refine aw_goto 63 dX4_withStone_58 (by decide) ?_
      refine aw_lv [4, 1, 0] rfl ?_
      exact wkX4_withStone_63 hl _ _ _ _ _ hf
  · rw [if_pos c5] at hf
    refine aw_null dX4_withStone_41 ?_
    cases hf
    exact aw_aret "AtariGarden$Position" dX4_withStone_42 rfl rfl rfl ⟨Nat.le_of_ble_eq_true rfl, Nat.le_of_ble_eq_true rfl⟩
abbrev MX6_isFull : xM := (RX6, cX6_isFull, 1, (some .boolean), "isFull")
abbrev rmX6_isFull : Room := { frames := 0, cells := 0, slots := 0, locals := 0 }
theorem ciX6_isFull : Cond.code yX6_isFull cX6_isFull 1 (some .boolean) ∈ wt ∧ Cond.initialized yX6_isFull.cls ∈ wt ∧ (yX6_isFull.cls ≠ "java/lang/invoke/MethodHandle" ∧ yX6_isFull.cls ≠ "java/lang/invoke/VarHandle" ∧ (parseMethodDescriptor yX6_isFull.desc).map (fun d => d.parameters.length) = some 0) := ⟨wl3 (i := 54) rfl rfl, wl1 (i := 3) rfl rfl, by decide +kernel, by decide +kernel, by decide +kernel⟩
def fX6_isFull (h : TH) (t : Nat) : Option (Bool) :=
  (if t_kd h t = 5 then (if (t_I h t 2) < 0 then some true else (t_R h t 0).bind fun p3 => (if t_kd h p3 = 13 then (if (t_I h t 2) < (nI (t_ln h p3)) then some false else some true) else none)) else none)
set_option maxHeartbeats 4000000 in
set_option maxRecDepth 100000 in
theorem ctX6_isFull {l : Launch} {g : xG} (hl : l.stackTraces = false) {r : Bool} (h : TH) (t : Nat) (hf : fX6_isFull h t = some r) : CT yX6_isFull MX6_isFull rmX6_isFull l g [va_rf (some t)] (thE g h) (.inl (some (.int (bi r)))) (thE g h) := by
  rw [fX6_isFull] at hf
  refine CT.of (lv0 := [(0, va_rf (some t))]) (by decide +kernel) rfl rfl (by simp [lg_sl, cat_q, cat_i, cat_l, cat_r]) (by simp [lv_args, cat_q, cat_i, cat_l, cat_r]) hl ?_
  refine aw_qload_n 0 dX6_isFull_0 rfl ?_
  obtain ⟨hk_1, hf⟩ := xifn hf
  refine th_getI 4 2 inX6 rfl hk_1 rfl ⟨by decide, by decide, rfl⟩ (wl1 (i := 65) rfl rfl) dX6_isFull_1 ?_
  refine aw_if_lt 19 dX6_isFull_4 (by decide) (fun c2 => ?_) (fun c2 => ?_)
  · rw [if_pos c2] at hf
    refine aw_iconst (1 : Int32) dX6_isFull_19 (by decide) ?_
    refine aw_goto 24 dX6_isFull_20 (by decide) ?_
    cases hf
    exact aw_zret dX6_isFull_24 rfl rfl rfl rfl ⟨Nat.le_of_ble_eq_true rfl, Nat.le_of_ble_eq_true rfl⟩
  · rw [if_neg c2] at hf
    refine aw_qload_n 0 dX6_isFull_7 rfl ?_
    refine th_getI 4 2 inX6 rfl hk_1 rfl ⟨by decide, by decide, rfl⟩ (wl1 (i := 65) rfl rfl) dX6_isFull_8 ?_
    refine aw_qload_n 0 dX6_isFull_11 rfl ?_
    refine th_getR 4 0 inX6 rfl hk_1 rfl ⟨by decide, by decide, rfl⟩ (wl1 (i := 63) rfl rfl) dX6_isFull_12 ?_
    obtain ⟨p3, hp3, hf⟩ := xbind hf
    obtain ⟨hk_4, hf⟩ := xifn hf
    refine th_alenT hp3 hk_4 dX6_isFull_15 ?_
    refine aw_icmp_lt 23 dX6_isFull_16 (by decide) (fun c5 => ?_) (fun c5 => ?_)
    · rw [if_pos c5] at hf
      refine aw_iconst (0 : Int32) dX6_isFull_23 (by decide) ?_
      cases hf
      exact aw_zret dX6_isFull_24 rfl rfl rfl rfl ⟨Nat.le_of_ble_eq_true rfl, Nat.le_of_ble_eq_true rfl⟩
    · rw [if_neg c5] at hf
      refine aw_iconst (1 : Int32) dX6_isFull_19 (by decide) ?_
      refine aw_goto 24 dX6_isFull_20 (by decide) ?_
      cases hf
      exact aw_zret dX6_isFull_24 rfl rfl rfl rfl ⟨Nat.le_of_ble_eq_true rfl, Nat.le_of_ble_eq_true rfl⟩
abbrev MX7_init : xM := (RX7, cX7_init, 7, none, "<init>")
abbrev rmX7_init : Room := { frames := 1, cells := 1, slots := 4, locals := 20 }
theorem ciX7_init : Cond.code yX7_init cX7_init 7 none ∈ wt ∧ Cond.initialized yX7_init.cls ∈ wt ∧ (yX7_init.cls ≠ "java/lang/invoke/MethodHandle" ∧ yX7_init.cls ≠ "java/lang/invoke/VarHandle" ∧ (parseMethodDescriptor yX7_init.desc).map (fun d => d.parameters.length) = some 6) := ⟨wl3 (i := 58) rfl rfl, wl1 (i := 16) rfl rfl, by decide +kernel, by decide +kernel, by decide +kernel⟩
def fX7_init (h : TH) (t : Nat) (a1 : Int32) (a2 : Int32) (a3 : Int32) (a4 : Option Nat) (a5 : Int32) (a6 : Option Nat) : Option (TH) :=
  (if t_kd (s_N h 9 4) t = 6 then some (s_R (s_I (s_R (s_I (s_I (s_I (s_R (s_N h 9 4) t 6 (some (t_sz h))) t 0 a1) t 1 a2) t 2 a3) t 3 a4) t 4 a5) t 5 a6) else none)
set_option maxHeartbeats 4000000 in
set_option maxRecDepth 100000 in
theorem ctX7_init {l : Launch} {g : xG} (hl : l.stackTraces = false) {r : TH} (h : TH) (t : Nat) (a1 : Int32) (a2 : Int32) (a3 : Int32) (a4 : Option Nat) (a5 : Int32) (a6 : Option Nat) (hf : fX7_init h t a1 a2 a3 a4 a5 a6 = some r) : CT yX7_init MX7_init rmX7_init l g [va_rf (some t), .int a1, .int a2, .int a3, va_rf a4, .int a5, va_rf a6] (thE g h) (.inl none) (thE g r) := by
  rw [fX7_init] at hf
  refine CT.of (lv0 := [(0, va_rf (some t)), (1, .int a1), (2, .int a2), (3, .int a3), (4, va_rf a4), (5, .int a5), (6, va_rf a6)]) (by decide +kernel) rfl rfl (by simp [lg_sl, cat_q, cat_i, cat_l, cat_r]) (by simp [lv_args, cat_q, cat_i, cat_l, cat_r]) hl ?_
  refine aw_qload_n 0 dX7_init_0 rfl ?_
  refine aw_objInit (r := (some t)) rfl (wl3 (i := 59) rfl rfl) dX7_init_1 (Nat.le_of_ble_eq_true rfl) ⟨Nat.le_of_ble_eq_true rfl, Nat.le_of_ble_eq_true rfl⟩ (wl1 (i := 24) rfl rfl) (wl1 (i := 25) rfl rfl) ?_
  refine aw_qload_n 0 dX7_init_4 rfl ?_
  refine aw_iconst (4 : Int32) dX7_init_5 (by decide) ?_
  refine th_newI 4 (wl1 (i := 54) rfl rfl) (by decide) (by decide) (by decide) ⟨Nat.le_of_ble_eq_true rfl, Nat.le_of_ble_eq_true rfl⟩ rfl dX7_init_6 ?_
  obtain ⟨hk_1, hf⟩ := xifn hf
  refine th_putRF 5 6 xtX7 rfl hk_1 rfl ⟨by decide, by decide, rfl⟩ rfl (nar_qa _ _) (fit_qa _ _) (wl3 (i := 72) rfl rfl) rfl rfl rfl dX7_init_8 ?_
  refine aw_qload_n 0 dX7_init_11 rfl ?_
  refine aw_iload_n 1 dX7_init_12 rfl ?_
  refine th_putIF 5 0 xtX7 rfl hk_1 rfl ⟨by decide, by decide, rfl⟩ rfl rfl rfl (wl3 (i := 60) rfl rfl) rfl rfl rfl dX7_init_13 ?_
  refine aw_qload_n 0 dX7_init_16 rfl ?_
  refine aw_iload_n 2 dX7_init_17 rfl ?_
  refine th_putIF 5 1 xtX7 rfl hk_1 rfl ⟨by decide, by decide, rfl⟩ rfl rfl rfl (wl3 (i := 62) rfl rfl) rfl rfl rfl dX7_init_18 ?_
  refine aw_qload_n 0 dX7_init_21 rfl ?_
  refine aw_iload_n 3 dX7_init_22 rfl ?_
  refine th_putIF 5 2 xtX7 rfl hk_1 rfl ⟨by decide, by decide, rfl⟩ rfl rfl rfl (wl3 (i := 64) rfl rfl) rfl rfl rfl dX7_init_23 ?_
  refine aw_qload_n 0 dX7_init_26 rfl ?_
  refine aw_qload 4 dX7_init_27 rfl ?_
  refine th_putRF 5 3 xtX7 rfl hk_1 rfl ⟨by decide, by decide, rfl⟩ rfl (nar_q _ _) (fit_q _ _) (wl3 (i := 66) rfl rfl) rfl rfl rfl dX7_init_29 ?_
  refine aw_qload_n 0 dX7_init_32 rfl ?_
  refine aw_iload 5 dX7_init_33 rfl ?_
  refine th_putIF 5 4 xtX7 rfl hk_1 rfl ⟨by decide, by decide, rfl⟩ rfl rfl rfl (wl3 (i := 68) rfl rfl) rfl rfl rfl dX7_init_35 ?_
  refine aw_qload_n 0 dX7_init_38 rfl ?_
  refine aw_qload 6 dX7_init_39 rfl ?_
  refine th_putRF 5 5 xtX7 rfl hk_1 rfl ⟨by decide, by decide, rfl⟩ rfl (nar_q _ _) (fit_q _ _) (wl3 (i := 70) rfl rfl) rfl rfl rfl dX7_init_41 ?_
  cases hf
  exact aw_vret dX7_init_44 rfl rfl rfl ⟨Nat.le_of_ble_eq_true rfl, Nat.le_of_ble_eq_true rfl⟩
abbrev MX6_begin : xM := (RX6, cX6_begin, 3, (some .int), "begin")
abbrev rmX6_begin : Room := { frames := 2, cells := 2, slots := 12, locals := 46 }
theorem ciX6_begin : Cond.code yX6_begin cX6_begin 3 (some .int) ∈ wt ∧ Cond.initialized yX6_begin.cls ∈ wt ∧ (yX6_begin.cls ≠ "java/lang/invoke/MethodHandle" ∧ yX6_begin.cls ≠ "java/lang/invoke/VarHandle" ∧ (parseMethodDescriptor yX6_begin.desc).map (fun d => d.parameters.length) = some 2) := ⟨wl3 (i := 50) rfl rfl, wl1 (i := 3) rfl rfl, by decide +kernel, by decide +kernel, by decide +kernel⟩
def fX6_begin (h : TH) (t : Nat) (a1 : Int32) (a2 : Option Nat) : Option (Int32 × TH) :=
  (if t_kd h t = 5 then (fX6_isFull h t).bind fun q2 => (if q2 = false then (if t_kd (s_N h 6 0) t = 5 then (fX7_init (s_N h 6 0) (t_sz h) (t_I (s_N h 6 0) t 2) (t_I (s_N h 6 0) t 2) a1 none (-2 : Int32) a2).bind fun q5 => (t_R h t 0).bind fun p6 => (if t_kd q5 p6 = 13 then (if xin (t_I h t 2) (t_ln q5 p6) = true then (if ((some (t_sz h))).all (fun b => t_kd q5 b == 6) = true then (if t_kd (s_R q5 p6 (t_I h t 2).toNatClampNeg (some (t_sz h))) t = 5 then (some (s_I (s_R q5 p6 (t_I h t 2).toNatClampNeg (some (t_sz h))) t 2 ((t_I (s_R q5 p6 (t_I h t 2).toNatClampNeg (some (t_sz h))) t 2) + (1 : Int32)))).bind fun W11 => some ((t_I (s_R q5 p6 (t_I h t 2).toNatClampNeg (some (t_sz h))) t 2), W11) else none) else none) else none) else none) else none) else some ((-1 : Int32), h)) else none)
set_option maxHeartbeats 4000000 in
set_option maxRecDepth 100000 in
theorem ctX6_begin {l : Launch} {g : xG} (hl : l.stackTraces = false) {r : Int32 × TH} (h : TH) (t : Nat) (a1 : Int32) (a2 : Option Nat) (hf : fX6_begin h t a1 a2 = some r) : CT yX6_begin MX6_begin rmX6_begin l g [va_rf (some t), .int a1, va_rf a2] (thE g h) (.inl (some (.int r.1))) (thE g r.2) := by
  rw [fX6_begin] at hf
  refine CT.of (lv0 := [(0, va_rf (some t)), (1, .int a1), (2, va_rf a2)]) (by decide +kernel) rfl rfl (by simp [lg_sl, cat_q, cat_i, cat_l, cat_r]) (by simp [lv_args, cat_q, cat_i, cat_l, cat_r]) hl ?_
  refine aw_qload_n 0 dX6_begin_0 rfl ?_
  obtain ⟨hk_1, hf⟩ := xifn hf
  obtain ⟨q2, hq2, hf⟩ := xbind hf
  refine aw_callV 4 (some t) [] 0 rfl (thC_ob (h := h) hk_1 (by decide)) rfl rfl (ctX6_isFull hl _ _ hq2) ⟨wl3 (i := 51) rfl rfl, ciX6_isFull⟩ (wl3 (i := 53) rfl rfl) (wl0 (i := 10) rfl rfl) dX6_begin_1 rfl rfl (Nat.le_of_ble_eq_true rfl) ⟨Nat.le_of_ble_eq_true rfl, Nat.le_of_ble_eq_true rfl⟩ ⟨Nat.le_of_ble_eq_true rfl, Nat.le_of_ble_eq_true rfl⟩ ?_
  refine aw_ifb_eq 9 dX6_begin_4 (by decide) (fun c3 => ?_) (fun c3 => ?_)
  · rw [if_pos c3] at hf
    refine aw_qload_n 0 dX6_begin_9 rfl ?_
    refine th_getR 4 0 inX6 rfl hk_1 rfl ⟨by decide, by decide, rfl⟩ (wl1 (i := 63) rfl rfl) dX6_begin_10 ?_
    refine aw_qload_n 0 dX6_begin_13 rfl ?_
    refine th_getI 4 2 inX6 rfl hk_1 rfl ⟨by decide, by decide, rfl⟩ (wl1 (i := 65) rfl rfl) dX6_begin_14 ?_
    refine th_new 5 xtX7 rfl (by decide) (wl1 (i := 61) rfl rfl) (wl3 (i := 55) rfl rfl) (wl1 (i := 16) rfl rfl) (by decide) ⟨Nat.le_of_ble_eq_true rfl, Nat.le_of_ble_eq_true rfl⟩ dX6_begin_17 ?_
    refine aw_dup dX6_begin_20 (cat_q _) ?_
    refine aw_qload_n 0 dX6_begin_21 rfl ?_
    obtain ⟨hk_4, hf⟩ := xifn hf
    refine th_getI 4 2 inX6 rfl hk_4 rfl ⟨by decide, by decide, rfl⟩ (wl1 (i := 65) rfl rfl) dX6_begin_22 ?_
    refine aw_qload_n 0 dX6_begin_25 rfl ?_
    refine th_getI 4 2 inX6 rfl hk_4 rfl ⟨by decide, by decide, rfl⟩ (wl1 (i := 65) rfl rfl) dX6_begin_26 ?_
    refine aw_iload_n 1 dX6_begin_29 rfl ?_
    refine aw_null dX6_begin_30 ?_
    refine aw_bipush (-2 : Int32) dX6_begin_31 (by decide) ?_
    refine aw_qload_n 2 dX6_begin_33 rfl ?_
    obtain ⟨q5, hq5, hf⟩ := xbind hf
    refine aw_callI _ [.int (t_I (s_N h 6 0) t 2), .int (t_I (s_N h 6 0) t 2), .int a1, va_rf none, .int (-2 : Int32), va_rf a2] 6 rfl rfl (ctX7_init hl _ _ _ _ _ _ _ _ hq5) ⟨wl3 (i := 56) rfl rfl, ciX7_init⟩ (wl3 (i := 57) rfl rfl) dX6_begin_34 rfl rfl (by simp [cat_q, cat_i, cat_l, cat_r]) ⟨Nat.le_of_ble_eq_true rfl, Nat.le_of_ble_eq_true rfl⟩ ⟨Nat.le_of_ble_eq_true rfl, Nat.le_of_ble_eq_true rfl⟩ ?_
    obtain ⟨p6, hp6, hf⟩ := xbind hf
    obtain ⟨hk_7, hf⟩ := xifn hf
    obtain ⟨hi8, hf⟩ := xifn hf
    obtain ⟨hv9, hf⟩ := xifn hf
    refine th_aastT hp6 hk_7 (xin_v hi8) (xall hv9) dX6_begin_37 ?_
    refine aw_qload_n 0 dX6_begin_38 rfl ?_
    refine aw_dup dX6_begin_39 rfl ?_
    obtain ⟨hk_10, hf⟩ := xifn hf
    refine th_getI 4 2 inX6 rfl hk_10 rfl ⟨by decide, by decide, rfl⟩ (wl1 (i := 65) rfl rfl) dX6_begin_40 ?_
    refine aw_dup_x1 dX6_begin_43 rfl rfl ?_
    refine aw_iconst (1 : Int32) dX6_begin_44 (by decide) ?_
    refine aw_iadd dX6_begin_45 ?_
    obtain ⟨W11, hW11, hf⟩ := xlet hf
    refine th_putI 4 2 xtX6 rfl hk_10 rfl ⟨by decide, by decide, rfl⟩ rfl rfl rfl (wl1 (i := 65) rfl rfl) rfl dX6_begin_46 ?_
    rw [hW11]
    cases hf
    exact aw_iret dX6_begin_49 rfl rfl rfl ⟨Nat.le_of_ble_eq_true rfl, Nat.le_of_ble_eq_true rfl⟩
  · rw [if_neg c3] at hf
    refine aw_iconst (-1 : Int32) dX6_begin_7 (by decide) ?_
    cases hf
    exact aw_iret dX6_begin_8 rfl rfl rfl ⟨Nat.le_of_ble_eq_true rfl, Nat.le_of_ble_eq_true rfl⟩
abbrev MX6_childOf : xM := (RX6, cX6_childOf, 5, (some (.object "AtariGarden$Twig")), "childOf")
abbrev rmX6_childOf : Room := { frames := 0, cells := 0, slots := 0, locals := 0 }
theorem ciX6_childOf : Cond.code yX6_childOf cX6_childOf 5 (some (.object "AtariGarden$Twig")) ∈ wt ∧ Cond.initialized yX6_childOf.cls ∈ wt ∧ (yX6_childOf.cls ≠ "java/lang/invoke/MethodHandle" ∧ yX6_childOf.cls ≠ "java/lang/invoke/VarHandle" ∧ (parseMethodDescriptor yX6_childOf.desc).map (fun d => d.parameters.length) = some 2) := ⟨wl3 (i := 113) rfl rfl, wl1 (i := 3) rfl rfl, by decide +kernel, by decide +kernel, by decide +kernel⟩
def fX6_childOf_45 (k2 : TH → Nat → Option Nat → Int32 → Int32 → Option (Option Nat)) (h : TH) (t : Nat) (a1 : Option Nat) (a2 : Int32) (a3 : Int32) : Option (Option Nat) :=
  k2 h t a1 a2 (a3 + (1 : Int32))
set_option maxHeartbeats 4000000 in
set_option maxRecDepth 100000 in
theorem wkX6_childOf_45 {l : Launch} {g : xG} {x0 : xV} (hl : l.stackTraces = false) {r : Option Nat} (k2 : TH → Nat → Option Nat → Int32 → Int32 → Option (Option Nat)) (hk2 : ∀ (h : TH) (t : Nat) (a1 : Option Nat) (a2 : Int32) (a3 : Int32), k2 h t a1 a2 a3 = some r → AW MX6_childOf rmX6_childOf l g x0 (.inl (some (va_rf r))) (thE g h) 0 0 (thE g h) 2 [(0, va_rf (some t)), (1, va_rf a1), (2, .int a2), (3, .int a3)] []) (h : TH) (t : Nat) (a1 : Option Nat) (a2 : Int32) (a3 : Int32) (hf : fX6_childOf_45 k2 h t a1 a2 a3 = some r) : AW MX6_childOf rmX6_childOf l g x0 (.inl (some (va_rf r))) (thE g h) 0 0 (thE g h) 45 [(0, va_rf (some t)), (1, va_rf a1), (2, .int a2), (3, .int a3)] [] := by
  rw [fX6_childOf_45] at hf
  refine aw_iinc [(3, .int (a3 + (1 : Int32))), (0, va_rf (some t)), (1, va_rf a1), (2, .int a2)] 3 dX6_childOf_45 rfl rfl (by decide) rfl ?_
  refine aw_goto 2 dX6_childOf_48 (by decide) ?_
  refine aw_lv [1, 2, 3, 0] rfl ?_
  exact hk2 _ _ _ _ _ hf
def fX6_childOf_2 : Nat → TH → Nat → Option Nat → Int32 → Int32 → Option (Option Nat)
  | 0, _, _, _, _, _ => none
  | n + 1, h, t, a1, a2, a3 =>
    (if t_kd h t = 5 then (t_R h t 0).bind fun p2 => (if t_kd h p2 = 13 then (if (nI (t_ln h p2)) ≤ a3 then some none else (if xin a3 (t_ln h p2) = true then (if (t_R h p2 a3.toNatClampNeg) = none then fX6_childOf_45 (fX6_childOf_2 n) h t a1 a2 a3 else (t_R h p2 a3.toNatClampNeg).bind fun p7 => (if t_kd h p7 = 6 then (if (t_R h p7 3) = a1 then (if (t_I h p7 4) = a2 then some (t_R h p2 a3.toNatClampNeg) else fX6_childOf_45 (fX6_childOf_2 n) h t a1 a2 a3) else fX6_childOf_45 (fX6_childOf_2 n) h t a1 a2 a3) else none)) else none)) else none) else none)
set_option maxHeartbeats 4000000 in
set_option maxRecDepth 100000 in
theorem wkX6_childOf_2 {l : Launch} {g : xG} {x0 : xV} (hl : l.stackTraces = false) {r : Option Nat} : ∀ (n : Nat) (h : TH) (t : Nat) (a1 : Option Nat) (a2 : Int32) (a3 : Int32), fX6_childOf_2 n h t a1 a2 a3 = some r → AW MX6_childOf rmX6_childOf l g x0 (.inl (some (va_rf r))) (thE g h) 0 0 (thE g h) 2 [(0, va_rf (some t)), (1, va_rf a1), (2, .int a2), (3, .int a3)] [] := by
  intro n
  induction n with
  | zero => intro h t a1 a2 a3 hf; exact absurd hf (by simp [fX6_childOf_2])
  | succ n hk2 =>
    intro h t a1 a2 a3 hf
    rw [fX6_childOf_2] at hf
    refine aw_iload_n 3 dX6_childOf_2 rfl ?_
    refine aw_qload_n 0 dX6_childOf_3 rfl ?_
    obtain ⟨hk_1, hf⟩ := xifn hf
    refine th_getR 4 0 inX6 rfl hk_1 rfl ⟨by decide, by decide, rfl⟩ (wl1 (i := 63) rfl rfl) dX6_childOf_4 ?_
    obtain ⟨p2, hp2, hf⟩ := xbind hf
    obtain ⟨hk_3, hf⟩ := xifn hf
    refine th_alenT hp2 hk_3 dX6_childOf_7 ?_
    refine aw_icmp_ge 51 dX6_childOf_8 (by decide) (fun c4 => ?_) (fun c4 => ?_)
    · rw [if_pos c4] at hf
      refine aw_null dX6_childOf_51 ?_
      cases hf
      exact aw_aret "AtariGarden$Twig" dX6_childOf_52 rfl rfl rfl ⟨Nat.le_of_ble_eq_true rfl, Nat.le_of_ble_eq_true rfl⟩
    · rw [if_neg c4] at hf
      refine aw_qload_n 0 dX6_childOf_11 rfl ?_
      refine th_getR 4 0 inX6 rfl hk_1 rfl ⟨by decide, by decide, rfl⟩ (wl1 (i := 63) rfl rfl) dX6_childOf_12 ?_
      refine aw_iload_n 3 dX6_childOf_15 rfl ?_
      obtain ⟨hi5, hf⟩ := xifn hf
      refine th_aaldT hp2 hk_3 (xin_v hi5) dX6_childOf_16 ?_
      refine aw_qstore [(4, va_rf (t_R h p2 a3.toNatClampNeg)), (0, va_rf (some t)), (1, va_rf a1), (2, .int a2), (3, .int a3)] dX6_childOf_17 (by decide) rfl ?_
      refine aw_qload 0 dX6_childOf_19 rfl ?_
      refine aw_ifnull 45 dX6_childOf_21 (by decide) (fun c6 => ?_) (fun c6 => ?_)
      · rw [if_pos c6] at hf
        refine aw_lv [1, 2, 3, 4] rfl ?_
        exact wkX6_childOf_45 hl _ hk2 _ _ _ _ _ hf
      · rw [if_neg c6] at hf
        refine aw_qload 0 dX6_childOf_24 rfl ?_
        obtain ⟨p7, hp7, hf⟩ := xbind hf
        obtain ⟨hk_8, hf⟩ := xifn hf
        refine th_getRN "AtariGarden" 5 3 inX7 hp7 hk_8 rfl ⟨by decide, by decide, rfl⟩ (wm3 (i := 67) rfl) dX6_childOf_26 ?_
        refine aw_qload_n 2 dX6_childOf_29 rfl ?_
        refine aw_acmp_ne 45 dX6_childOf_30 (by decide) (fun c9 => ?_) (fun c9 => ?_)
        · rw [if_neg c9] at hf
          refine aw_lv [1, 2, 3, 4] rfl ?_
          exact wkX6_childOf_45 hl _ hk2 _ _ _ _ _ hf
        · rw [if_pos c9] at hf
          refine aw_qload 0 dX6_childOf_33 rfl ?_
          refine th_getIN "AtariGarden" 5 4 inX7 hp7 hk_8 rfl ⟨by decide, by decide, rfl⟩ (wm3 (i := 69) rfl) dX6_childOf_35 ?_
          refine aw_iload_n 3 dX6_childOf_38 rfl ?_
          refine aw_icmp_ne 45 dX6_childOf_39 (by decide) (fun c10 => ?_) (fun c10 => ?_)
          · rw [if_neg c10] at hf
            refine aw_lv [1, 2, 3, 4] rfl ?_
            exact wkX6_childOf_45 hl _ hk2 _ _ _ _ _ hf
          · rw [if_pos c10] at hf
            refine aw_qload 0 dX6_childOf_42 rfl ?_
            cases hf
            exact aw_aret "AtariGarden$Twig" dX6_childOf_44 rfl rfl rfl ⟨Nat.le_of_ble_eq_true rfl, Nat.le_of_ble_eq_true rfl⟩
def fX6_childOf (h : TH) (t : Nat) (a1 : Option Nat) (a2 : Int32) : Option (Option Nat) :=
  fX6_childOf_2 FU h t a1 a2 (0 : Int32)
set_option maxHeartbeats 4000000 in
set_option maxRecDepth 100000 in
theorem ctX6_childOf {l : Launch} {g : xG} (hl : l.stackTraces = false) {r : Option Nat} (h : TH) (t : Nat) (a1 : Option Nat) (a2 : Int32) (hf : fX6_childOf h t a1 a2 = some r) : CT yX6_childOf MX6_childOf rmX6_childOf l g [va_rf (some t), va_rf a1, .int a2] (thE g h) (.inl (some (va_rf r))) (thE g h) := by
  rw [fX6_childOf] at hf
  refine CT.of (lv0 := [(0, va_rf (some t)), (1, va_rf a1), (2, .int a2)]) (by decide +kernel) rfl rfl (by simp [lg_sl, cat_q, cat_i, cat_l, cat_r]) (by simp [lv_args, cat_q, cat_i, cat_l, cat_r]) hl ?_
  refine aw_iconst (0 : Int32) dX6_childOf_0 (by decide) ?_
  refine aw_istore_n [(3, .int (0 : Int32)), (0, va_rf (some t)), (1, va_rf a1), (2, .int a2)] dX6_childOf_1 rfl (by decide) rfl ?_
  refine aw_lv [1, 2, 3, 0] rfl ?_
  exact wkX6_childOf_2 hl _ _ _ _ _ _ hf
abbrev MX6_grow : xM := (RX6, cX6_grow, 5, (some (.object "AtariGarden$Twig")), "grow")
abbrev rmX6_grow : Room := { frames := 2, cells := 2, slots := 12, locals := 46 }
theorem ciX6_grow : Cond.code yX6_grow cX6_grow 5 (some (.object "AtariGarden$Twig")) ∈ wt ∧ Cond.initialized yX6_grow.cls ∈ wt ∧ (yX6_grow.cls ≠ "java/lang/invoke/MethodHandle" ∧ yX6_grow.cls ≠ "java/lang/invoke/VarHandle" ∧ (parseMethodDescriptor yX6_grow.desc).map (fun d => d.parameters.length) = some 3) := ⟨wl3 (i := 119) rfl rfl, wl1 (i := 3) rfl rfl, by decide +kernel, by decide +kernel, by decide +kernel⟩
def fX6_grow (h : TH) (t : Nat) (a1 : Option Nat) (a2 : Int32) (a3 : Option Nat) : Option (Option Nat × TH) :=
  (if a3 = none then some (none, h) else (if t_kd h t = 5 then (fX6_isFull h t).bind fun q3 => (if q3 = false then (if t_kd (s_N h 6 0) t = 5 then a1.bind fun p6 => (if t_kd (s_N h 6 0) p6 = 6 then (fX7_init (s_N h 6 0) (t_sz h) (t_I (s_N h 6 0) t 2) (t_I (s_N h 6 0) p6 1) (t_I (s_N h 6 0) p6 2) a1 a2 a3).bind fun q8 => (if t_kd q8 t = 5 then (t_R q8 t 0).bind fun p10 => (if t_kd q8 p10 = 13 then (if xin (t_I q8 t 2) (t_ln q8 p10) = true then (if ((some (t_sz h))).all (fun b => t_kd q8 b == 6) = true then (some (s_I (s_R q8 p10 (t_I q8 t 2).toNatClampNeg (some (t_sz h))) t 2 ((t_I (s_R q8 p10 (t_I q8 t 2).toNatClampNeg (some (t_sz h))) t 2) + (1 : Int32)))).bind fun W14 => (if t_kd W14 p6 = 6 then some ((some (t_sz h)), (s_I W14 p6 7 ((t_I W14 p6 7) + (1 : Int32)))) else none) else none) else none) else none) else none) else none) else none) else some (none, h)) else none))
set_option maxHeartbeats 4000000 in
set_option maxRecDepth 100000 in
theorem ctX6_grow {l : Launch} {g : xG} (hl : l.stackTraces = false) {r : Option Nat × TH} (h : TH) (t : Nat) (a1 : Option Nat) (a2 : Int32) (a3 : Option Nat) (hf : fX6_grow h t a1 a2 a3 = some r) : CT yX6_grow MX6_grow rmX6_grow l g [va_rf (some t), va_rf a1, .int a2, va_rf a3] (thE g h) (.inl (some (va_rf r.1))) (thE g r.2) := by
  rw [fX6_grow] at hf
  refine CT.of (lv0 := [(0, va_rf (some t)), (1, va_rf a1), (2, .int a2), (3, va_rf a3)]) (by decide +kernel) rfl rfl (by simp [lg_sl, cat_q, cat_i, cat_l, cat_r]) (by simp [lv_args, cat_q, cat_i, cat_l, cat_r]) hl ?_
  refine aw_qload_n 3 dX6_grow_0 rfl ?_
  refine aw_ifnull 11 dX6_grow_1 (by decide) (fun c1 => ?_) (fun c1 => ?_)
  · rw [if_pos c1] at hf
    refine aw_null dX6_grow_11 ?_
    cases hf
    exact aw_aret "AtariGarden$Twig" dX6_grow_12 rfl rfl rfl ⟨Nat.le_of_ble_eq_true rfl, Nat.le_of_ble_eq_true rfl⟩
  · rw [if_neg c1] at hf
    refine aw_qload_n 0 dX6_grow_4 rfl ?_
    obtain ⟨hk_2, hf⟩ := xifn hf
    obtain ⟨q3, hq3, hf⟩ := xbind hf
    refine aw_callV 4 (some t) [] 0 rfl (thC_ob (h := h) hk_2 (by decide)) rfl rfl (ctX6_isFull hl _ _ hq3) ⟨wl3 (i := 51) rfl rfl, ciX6_isFull⟩ (wl3 (i := 53) rfl rfl) (wl0 (i := 10) rfl rfl) dX6_grow_5 rfl rfl (Nat.le_of_ble_eq_true rfl) ⟨Nat.le_of_ble_eq_true rfl, Nat.le_of_ble_eq_true rfl⟩ ⟨Nat.le_of_ble_eq_true rfl, Nat.le_of_ble_eq_true rfl⟩ ?_
    refine aw_ifb_eq 13 dX6_grow_8 (by decide) (fun c4 => ?_) (fun c4 => ?_)
    · rw [if_pos c4] at hf
      refine th_new 5 xtX7 rfl (by decide) (wl1 (i := 61) rfl rfl) (wl3 (i := 55) rfl rfl) (wl1 (i := 16) rfl rfl) (by decide) ⟨Nat.le_of_ble_eq_true rfl, Nat.le_of_ble_eq_true rfl⟩ dX6_grow_13 ?_
      refine aw_dup dX6_grow_16 (cat_q _) ?_
      refine aw_qload_n 0 dX6_grow_17 rfl ?_
      obtain ⟨hk_5, hf⟩ := xifn hf
      refine th_getI 4 2 inX6 rfl hk_5 rfl ⟨by decide, by decide, rfl⟩ (wl1 (i := 65) rfl rfl) dX6_grow_18 ?_
      refine aw_qload_n 1 dX6_grow_21 rfl ?_
      obtain ⟨p6, hp6, hf⟩ := xbind hf
      obtain ⟨hk_7, hf⟩ := xifn hf
      refine th_getIN "AtariGarden" 5 1 inX7 hp6 hk_7 rfl ⟨by decide, by decide, rfl⟩ (wm3 (i := 63) rfl) dX6_grow_22 ?_
      refine aw_qload_n 1 dX6_grow_25 rfl ?_
      refine th_getIN "AtariGarden" 5 2 inX7 hp6 hk_7 rfl ⟨by decide, by decide, rfl⟩ (wm3 (i := 65) rfl) dX6_grow_26 ?_
      refine aw_qload_n 1 dX6_grow_29 rfl ?_
      refine aw_iload_n 2 dX6_grow_30 rfl ?_
      refine aw_qload_n 3 dX6_grow_31 rfl ?_
      obtain ⟨q8, hq8, hf⟩ := xbind hf
      refine aw_callI _ [.int (t_I (s_N h 6 0) t 2), .int (t_I (s_N h 6 0) p6 1), .int (t_I (s_N h 6 0) p6 2), va_rf a1, .int a2, va_rf a3] 6 rfl rfl (ctX7_init hl _ _ _ _ _ _ _ _ hq8) ⟨wl3 (i := 56) rfl rfl, ciX7_init⟩ (wl3 (i := 57) rfl rfl) dX6_grow_32 rfl rfl (by simp [cat_q, cat_i, cat_l, cat_r]) ⟨Nat.le_of_ble_eq_true rfl, Nat.le_of_ble_eq_true rfl⟩ ⟨Nat.le_of_ble_eq_true rfl, Nat.le_of_ble_eq_true rfl⟩ ?_
      refine aw_qstore [(4, va_rf (some (t_sz h))), (0, va_rf (some t)), (1, va_rf a1), (2, .int a2), (3, va_rf a3)] dX6_grow_35 (by decide) (by simp [cat_q, cat_i, cat_l, cat_r]) ?_
      refine aw_qload_n 1 dX6_grow_37 rfl ?_
      obtain ⟨hk_9, hf⟩ := xifn hf
      refine th_getR 4 0 inX6 rfl hk_9 rfl ⟨by decide, by decide, rfl⟩ (wl1 (i := 63) rfl rfl) dX6_grow_38 ?_
      refine aw_qload_n 1 dX6_grow_41 rfl ?_
      refine th_getI 4 2 inX6 rfl hk_9 rfl ⟨by decide, by decide, rfl⟩ (wl1 (i := 65) rfl rfl) dX6_grow_42 ?_
      refine aw_qload 0 dX6_grow_45 rfl ?_
      obtain ⟨p10, hp10, hf⟩ := xbind hf
      obtain ⟨hk_11, hf⟩ := xifn hf
      obtain ⟨hi12, hf⟩ := xifn hf
      obtain ⟨hv13, hf⟩ := xifn hf
      refine th_aastT hp10 hk_11 (xin_v hi12) (xall hv13) dX6_grow_47 ?_
      refine aw_qload_n 1 dX6_grow_48 rfl ?_
      refine aw_dup dX6_grow_49 rfl ?_
      refine th_getI 4 2 inX6 rfl hk_9 rfl ⟨by decide, by decide, rfl⟩ (wl1 (i := 65) rfl rfl) dX6_grow_50 ?_
      refine aw_iconst (1 : Int32) dX6_grow_53 (by decide) ?_
      refine aw_iadd dX6_grow_54 ?_
      obtain ⟨W14, hW14, hf⟩ := xlet hf
      refine th_putI 4 2 xtX6 rfl hk_9 rfl ⟨by decide, by decide, rfl⟩ rfl rfl rfl (wl1 (i := 65) rfl rfl) rfl dX6_grow_55 ?_
      rw [hW14]
      refine aw_qload_n 2 dX6_grow_58 rfl ?_
      refine aw_dup dX6_grow_59 (cat_q _) ?_
      obtain ⟨hk_15, hf⟩ := xifn hf
      refine th_getIN "AtariGarden" 5 7 inX7 hp6 hk_15 rfl ⟨by decide, by decide, rfl⟩ (wm3 (i := 74) rfl) dX6_grow_60 ?_
      refine aw_iconst (1 : Int32) dX6_grow_63 (by decide) ?_
      refine aw_iadd dX6_grow_64 ?_
      refine th_putIN "AtariGarden" 5 7 xtX7 hp6 hk_15 rfl ⟨by decide, by decide, rfl⟩ rfl rfl rfl (wm3 (i := 74) rfl) rfl dX6_grow_65 ?_
      refine aw_qload 0 dX6_grow_68 rfl ?_
      cases hf
      exact aw_aret "AtariGarden$Twig" dX6_grow_70 rfl rfl rfl ⟨Nat.le_of_ble_eq_true rfl, Nat.le_of_ble_eq_true rfl⟩
    · rw [if_neg c4] at hf
      refine aw_null dX6_grow_11 ?_
      cases hf
      exact aw_aret "AtariGarden$Twig" dX6_grow_12 rfl rfl rfl ⟨Nat.le_of_ble_eq_true rfl, Nat.le_of_ble_eq_true rfl⟩
abbrev MX6_childOrNew : xM := (RX6, cX6_childOrNew, 5, (some .int), "childOrNew")
abbrev rmX6_childOrNew : Room := { frames := 4, cells := 3, slots := 18, locals := 115 }
theorem ciX6_childOrNew : Cond.code yX6_childOrNew cX6_childOrNew 5 (some .int) ∈ wt ∧ Cond.initialized yX6_childOrNew.cls ∈ wt ∧ (yX6_childOrNew.cls ≠ "java/lang/invoke/MethodHandle" ∧ yX6_childOrNew.cls ≠ "java/lang/invoke/VarHandle" ∧ (parseMethodDescriptor yX6_childOrNew.desc).map (fun d => d.parameters.length) = some 2) := ⟨wl3 (i := 109) rfl rfl, wl1 (i := 3) rfl rfl, by decide +kernel, by decide +kernel, by decide +kernel⟩
def fX6_childOrNew_43 (h : TH) (t : Nat) (a3 : Option Nat) : Option (Int32 × TH) :=
  (if a3 = none then some ((-1 : Int32), h) else a3.bind fun p2 => (if t_kd h p2 = 6 then some ((t_I h p2 0), h) else none))
set_option maxHeartbeats 4000000 in
set_option maxRecDepth 100000 in
theorem wkX6_childOrNew_43 {l : Launch} {g : xG} {x0 : xV} (hl : l.stackTraces = false) {r : Int32 × TH} (h : TH) (t : Nat) (a3 : Option Nat) (hf : fX6_childOrNew_43 h t a3 = some r) : AW MX6_childOrNew rmX6_childOrNew l g x0 (.inl (some (.int r.1))) (thE g r.2) 3 18 (thE g h) 43 [(3, va_rf a3)] [] := by
  rw [fX6_childOrNew_43] at hf
  refine aw_qload_n 0 dX6_childOrNew_43 rfl ?_
  refine aw_ifnonnull 51 dX6_childOrNew_44 (by decide) (fun c1 => ?_) (fun c1 => ?_)
  · rw [if_neg c1] at hf
    refine aw_qload_n 0 dX6_childOrNew_51 rfl ?_
    obtain ⟨p2, hp2, hf⟩ := xbind hf
    obtain ⟨hk_3, hf⟩ := xifn hf
    refine th_getIN "AtariGarden" 5 0 inX7 hp2 hk_3 rfl ⟨by decide, by decide, rfl⟩ (wm3 (i := 61) rfl) dX6_childOrNew_52 ?_
    cases hf
    exact aw_iret dX6_childOrNew_55 rfl rfl rfl ⟨Nat.le_of_ble_eq_true rfl, Nat.le_of_ble_eq_true rfl⟩
  · rw [if_pos c1] at hf
    refine aw_iconst (-1 : Int32) dX6_childOrNew_47 (by decide) ?_
    refine aw_goto 55 dX6_childOrNew_48 (by decide) ?_
    cases hf
    exact aw_iret dX6_childOrNew_55 rfl rfl rfl ⟨Nat.le_of_ble_eq_true rfl, Nat.le_of_ble_eq_true rfl⟩
def fX6_childOrNew_39 (h : TH) (t : Nat) (s1 : Option Nat) (s2 : Int32) (s3 : Option Nat) : Option (Int32 × TH) :=
  (if t_kd h t = 5 then (fX6_grow h t s1 s2 s3).bind fun q2 => fX6_childOrNew_43 q2.2 t q2.1 else none)
set_option maxHeartbeats 4000000 in
set_option maxRecDepth 100000 in
theorem wkX6_childOrNew_39 {l : Launch} {g : xG} {x0 : xV} (hl : l.stackTraces = false) {r : Int32 × TH} (h : TH) (t : Nat) (s1 : Option Nat) (s2 : Int32) (s3 : Option Nat) (hf : fX6_childOrNew_39 h t s1 s2 s3 = some r) : AW MX6_childOrNew rmX6_childOrNew l g x0 (.inl (some (.int r.1))) (thE g r.2) 1 6 (thE g h) 39 [] [va_rf s3, .int s2, va_rf s1, va_rf (some t)] := by
  rw [fX6_childOrNew_39] at hf
  obtain ⟨hk_1, hf⟩ := xifn hf
  obtain ⟨q2, hq2, hf⟩ := xbind hf
  refine aw_callV 4 (some t) [va_rf s1, .int s2, va_rf s3] 3 rfl (thC_ob (h := h) hk_1 (by decide)) rfl rfl (ctX6_grow hl _ _ _ _ _ hq2) ⟨wl3 (i := 116) rfl rfl, ciX6_grow⟩ (wl3 (i := 118) rfl rfl) (wl0 (i := 13) rfl rfl) dX6_childOrNew_39 rfl rfl (Nat.le_of_ble_eq_true rfl) ⟨Nat.le_of_ble_eq_true rfl, Nat.le_of_ble_eq_true rfl⟩ ⟨Nat.le_of_ble_eq_true rfl, Nat.le_of_ble_eq_true rfl⟩ ?_
  refine aw_qstore_n [(3, va_rf q2.1)] dX6_childOrNew_42 rfl (by decide) rfl ?_
  refine aw_lv [0] rfl ?_
  exact wkX6_childOrNew_43 hl _ _ _ hf
def fX6_childOrNew (h : TH) (t : Nat) (a1 : Option Nat) (a2 : Int32) : Option (Int32 × TH) :=
  (if t_kd h t = 5 then (fX6_childOf h t a1 a2).bind fun q2 => (if q2 = none then a1.bind fun p4 => (if t_kd h p4 = 6 then (if a2 = (-1 : Int32) then (t_R h p4 5).bind fun p10 => (if t_kd h p10 = 4 then (fX4_withPassing h p10).bind fun q12 => fX6_childOrNew_39 q12.2 t a1 a2 q12.1 else none) else (t_R h p4 5).bind fun p7 => (if t_kd h p7 = 4 then (fX4_withStone h p7 a2).bind fun q9 => fX6_childOrNew_39 q9.2 t a1 a2 q9.1 else none)) else none) else fX6_childOrNew_43 h t q2) else none)
set_option maxHeartbeats 4000000 in
set_option maxRecDepth 100000 in
theorem ctX6_childOrNew {l : Launch} {g : xG} (hl : l.stackTraces = false) {r : Int32 × TH} (h : TH) (t : Nat) (a1 : Option Nat) (a2 : Int32) (hf : fX6_childOrNew h t a1 a2 = some r) : CT yX6_childOrNew MX6_childOrNew rmX6_childOrNew l g [va_rf (some t), va_rf a1, .int a2] (thE g h) (.inl (some (.int r.1))) (thE g r.2) := by
  rw [fX6_childOrNew] at hf
  refine CT.of (lv0 := [(0, va_rf (some t)), (1, va_rf a1), (2, .int a2)]) (by decide +kernel) rfl rfl (by simp [lg_sl, cat_q, cat_i, cat_l, cat_r]) (by simp [lv_args, cat_q, cat_i, cat_l, cat_r]) hl ?_
  refine aw_qload_n 0 dX6_childOrNew_0 rfl ?_
  refine aw_qload_n 1 dX6_childOrNew_1 rfl ?_
  refine aw_iload_n 2 dX6_childOrNew_2 rfl ?_
  obtain ⟨hk_1, hf⟩ := xifn hf
  obtain ⟨q2, hq2, hf⟩ := xbind hf
  refine aw_callV 4 (some t) [va_rf a1, .int a2] 2 rfl (thC_ob (h := h) hk_1 (by decide)) rfl rfl (ctX6_childOf hl _ _ _ _ hq2) ⟨wl3 (i := 110) rfl rfl, ciX6_childOf⟩ (wl3 (i := 112) rfl rfl) (wl0 (i := 12) rfl rfl) dX6_childOrNew_3 rfl rfl (Nat.le_of_ble_eq_true rfl) ⟨Nat.le_of_ble_eq_true rfl, Nat.le_of_ble_eq_true rfl⟩ ⟨Nat.le_of_ble_eq_true rfl, Nat.le_of_ble_eq_true rfl⟩ ?_
  refine aw_qstore_n [(3, va_rf q2), (0, va_rf (some t)), (1, va_rf a1), (2, .int a2)] dX6_childOrNew_6 rfl (by decide) rfl ?_
  refine aw_qload_n 0 dX6_childOrNew_7 rfl ?_
  refine aw_ifnonnull 43 dX6_childOrNew_8 (by decide) (fun c3 => ?_) (fun c3 => ?_)
  · rw [if_neg c3] at hf
    refine aw_lv [0] rfl ?_
    refine aw_widen 3 18 (Nat.le_of_ble_eq_true rfl) (Nat.le_of_ble_eq_true rfl) ?_
    exact wkX6_childOrNew_43 hl _ _ _ hf
  · rw [if_pos c3] at hf
    refine aw_qload_n 2 dX6_childOrNew_11 rfl ?_
    obtain ⟨p4, hp4, hf⟩ := xbind hf
    obtain ⟨hk_5, hf⟩ := xifn hf
    refine th_getRN "AtariGarden" 5 5 inX7 hp4 hk_5 rfl ⟨by decide, by decide, rfl⟩ (wm3 (i := 71) rfl) dX6_childOrNew_12 ?_
    refine aw_qstore [(4, va_rf (t_R h p4 5)), (3, va_rf q2), (0, va_rf (some t)), (1, va_rf a1), (2, .int a2)] dX6_childOrNew_15 (by decide) (by simp [cat_q, cat_i, cat_l, cat_r]) ?_
    refine aw_qload_n 2 dX6_childOrNew_17 rfl ?_
    refine aw_qload_n 3 dX6_childOrNew_18 rfl ?_
    refine aw_iload_n 4 dX6_childOrNew_19 rfl ?_
    refine aw_iload_n 4 dX6_childOrNew_20 rfl ?_
    refine aw_iconst (-1 : Int32) dX6_childOrNew_21 (by decide) ?_
    refine aw_icmp_ne 33 dX6_childOrNew_22 (by decide) (fun c6 => ?_) (fun c6 => ?_)
    · rw [if_neg c6] at hf
      refine aw_qload 0 dX6_childOrNew_33 rfl ?_
      refine aw_iload_n 4 dX6_childOrNew_35 rfl ?_
      obtain ⟨p7, hp7, hf⟩ := xbind hf
      obtain ⟨hk_8, hf⟩ := xifn hf
      obtain ⟨q9, hq9, hf⟩ := xbind hf
      refine aw_callV 3 (t_R h p4 5) [.int a2] 1 hp7 (thC_ob (h := h) hk_8 (by decide)) rfl rfl (ctX4_withStone hl _ _ _ hq9) ⟨wl3 (i := 115) rfl rfl, ciX4_withStone⟩ (wl2 (i := 187) rfl rfl) (wl2 (i := 188) rfl rfl) dX6_childOrNew_36 rfl rfl (by simp [cat_q, cat_i, cat_l, cat_r]) ⟨Nat.le_of_ble_eq_true rfl, Nat.le_of_ble_eq_true rfl⟩ ⟨Nat.le_of_ble_eq_true rfl, Nat.le_of_ble_eq_true rfl⟩ ?_
      refine aw_lv [] rfl ?_
      exact wkX6_childOrNew_39 hl _ _ _ _ _ hf
    · rw [if_pos c6] at hf
      refine aw_qload 0 dX6_childOrNew_25 rfl ?_
      obtain ⟨p10, hp10, hf⟩ := xbind hf
      obtain ⟨hk_11, hf⟩ := xifn hf
      obtain ⟨q12, hq12, hf⟩ := xbind hf
      refine aw_callV 3 (t_R h p4 5) [] 0 hp10 (thC_ob (h := h) hk_11 (by decide)) rfl rfl (ctX4_withPassing hl _ _ hq12) ⟨wl3 (i := 114) rfl rfl, ciX4_withPassing⟩ (wl3 (i := 3) rfl rfl) (wl3 (i := 4) rfl rfl) dX6_childOrNew_27 rfl rfl (by simp [cat_q, cat_i, cat_l, cat_r]) ⟨Nat.le_of_ble_eq_true rfl, Nat.le_of_ble_eq_true rfl⟩ ⟨Nat.le_of_ble_eq_true rfl, Nat.le_of_ble_eq_true rfl⟩ ?_
      refine aw_goto 39 dX6_childOrNew_30 (by decide) ?_
      refine aw_lv [] rfl ?_
      exact wkX6_childOrNew_39 hl _ _ _ _ _ hf
