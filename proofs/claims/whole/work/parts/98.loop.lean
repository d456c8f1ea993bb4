/-! The law: the switch and the loop. -/
set_option maxHeartbeats 4000000 in
set_option maxRecDepth 100000 in
theorem law_turn {b L : Nat} {xs : Nat → Int32} {nm : String} {l : Launch} {g : xG} {sz kc ks : Nat} (hl : l.stackTraces = false) {mo t i : Nat} {h : TH} {S : MS} {o : Nat → Int64} {k : Nat} (hL : L ≤ 3072) (hb : b < sz) (hi : i + 6 ≤ L) (hr : kc + 200 ≤ 601024 ∧ ks + 1000 ≤ 7293034) (hk : k ≤ 4000) (hR : RR mo t k h S)
    (K : ∀ h2 S2 o2, RR mo t (k + 1) h2 S2 → AL b L xs nm l g sz (kc + 200) (ks + 1000) (LW g mo h2 S2 o2) 1647 (lvL t mo b (nI i)) []) : AL b L xs nm l g sz kc ks (LW g mo h S o) 33 (lvL t mo b (nI i)) [] := by
  refine ag_aload_n 4 dL_law_33 rfl ?_
  refine ag_iload 0 dL_law_34 rfl ?_
  refine ag_sld (L := L) (xs := xs) (fun s args c h => h.2.1) hb rfl (vin_nI (show i < L by omega) (by omega)) dL_law_36 ?_
  refine ag_bipush (31 : Int32) dL_law_37 (by decide) ?_
  refine ag_iand dL_law_39 ?_
  obtain ⟨j, hj, e⟩ := and31 (xs (nI i).toNatClampNeg)
  rw [e]
  have out : ∀ j, 23 ≤ j → j < 32 → AL b L xs nm l g sz kc ks (LW g mo h S o) 40 (lvL t mo b (nI i)) [.int (nI j)] := fun j h1 h2 => by
    refine ag_tabOut 1647 dL_law_40 (Or.inr ?_) (by decide) ?_
    · rw [nI_toInt (by omega)]; omega
    · exact ag_widen (kc + 200) (ks + 1000) (by omega) (by omega) (K _ _ _ hR.nx)
  by_cases h23 : 23 ≤ j
  · exact out j h23 hj
  have hc : j = 0 ∨ j = 1 ∨ j = 2 ∨ j = 3 ∨ j = 4 ∨ j = 5 ∨ j = 6 ∨ j = 7 ∨ j = 8 ∨ j = 9 ∨ j = 10 ∨ j = 11 ∨ j = 12 ∨ j = 13 ∨ j = 14 ∨ j = 15 ∨ j = 16 ∨ j = 17 ∨ j = 18 ∨ j = 19 ∨ j = 20 ∨ j = 21 ∨ j = 22 := by omega
  rcases hc with rfl | rfl | rfl | rfl | rfl | rfl | rfl | rfl | rfl | rfl | rfl | rfl | rfl | rfl | rfl | rfl | rfl | rfl | rfl | rfl | rfl | rfl | rfl
  · exact ag_tabIn 148 dL_law_40 (by decide) (by decide) (show _ = some (108 : Int) by decide) (by decide) (tn_player hl hL hb hi hr hk hR K)
  · exact ag_tabIn 204 dL_law_40 (by decide) (by decide) (show _ = some (164 : Int) by decide) (by decide) (tn_rank hl hL hb hi hr hk hR K)
  · exact ag_tabIn 260 dL_law_40 (by decide) (by decide) (show _ = some (220 : Int) by decide) (by decide) (tn_game hl hL hb hi hr hk hR K)
  · exact ag_tabIn 364 dL_law_40 (by decide) (by decide) (show _ = some (324 : Int) by decide) (by decide) (tn_play hl hL hb hi hr hk hR K)
  · exact ag_tabIn 444 dL_law_40 (by decide) (by decide) (show _ = some (404 : Int) by decide) (by decide) (tn_pass hl hL hb hi hr hk hR K)
  · exact ag_tabIn 512 dL_law_40 (by decide) (by decide) (show _ = some (472 : Int) by decide) (by decide) (tn_resign hl hL hb hi hr hk hR K)
  · exact ag_tabIn 568 dL_law_40 (by decide) (by decide) (show _ = some (528 : Int) by decide) (by decide) (tn_state hl hL hb hi hr hk hR K)
  · exact ag_tabIn 624 dL_law_40 (by decide) (by decide) (show _ = some (584 : Int) by decide) (by decide) (tn_handicap hl hL hb hi hr hk hR K)
  · exact ag_tabIn 680 dL_law_40 (by decide) (by decide) (show _ = some (640 : Int) by decide) (by decide) (tn_sign hl hL hb hi hr hk hR K)
  · exact ag_tabIn 748 dL_law_40 (by decide) (by decide) (show _ = some (708 : Int) by decide) (by decide) (tn_clock hl hL hb hi hr hk hR K)
  · exact ag_tabIn 816 dL_law_40 (by decide) (by decide) (show _ = some (776 : Int) by decide) (by decide) (tn_score hl hL hb hi hr hk hR K)
  · exact ag_tabIn 872 dL_law_40 (by decide) (by decide) (show _ = some (832 : Int) by decide) (by decide) (tn_liberties hl hL hb hi hr hk hR K)
  · exact ag_tabIn 940 dL_law_40 (by decide) (by decide) (show _ = some (900 : Int) by decide) (by decide) (tn_flooded hl hL hb hi hr hk hR K)
  · exact ag_tabIn 1008 dL_law_40 (by decide) (by decide) (show _ = some (968 : Int) by decide) (by decide) (tn_judge hl hL hb hi hr hk hR K)
  · exact ag_tabIn 1064 dL_law_40 (by decide) (by decide) (show _ = some (1024 : Int) by decide) (by decide) (tn_due hl hL hb hi hr hk hR K)
  · exact ag_tabIn 1120 dL_law_40 (by decide) (by decide) (show _ = some (1080 : Int) by decide) (by decide) (tn_settle hl hL hb hi hr hk hR K)
  · exact ag_tabIn 1133 dL_law_40 (by decide) (by decide) (show _ = some (1093 : Int) by decide) (by decide) (tn_ladder hl hL hb hi hr hk hR K)
  · exact ag_tabIn 1220 dL_law_40 (by decide) (by decide) (show _ = some (1180 : Int) by decide) (by decide) (tn_net hl hL hb hi hr hk hR K)
  · exact ag_tabIn 1307 dL_law_40 (by decide) (by decide) (show _ = some (1267 : Int) by decide) (by decide) (tn_lesson hl hL hb hi hr hk hR K)
  · exact ag_tabIn 1375 dL_law_40 (by decide) (by decide) (show _ = some (1335 : Int) by decide) (by decide) (tn_branch hl hL hb hi hr hk hR K)
  · exact ag_tabIn 1443 dL_law_40 (by decide) (by decide) (show _ = some (1403 : Int) by decide) (by decide) (tn_mark hl hL hb hi hr hk hR K)
  · exact ag_tabIn 1523 dL_law_40 (by decide) (by decide) (show _ = some (1483 : Int) by decide) (by decide) (tn_node hl hL hb hi hr hk hR K)
  · exact ag_tabIn 1579 dL_law_40 (by decide) (by decide) (show _ = some (1539 : Int) by decide) (by decide) (tn_merge hl hL hb hi hr hk hR K)
set_option maxHeartbeats 4000000 in
set_option maxRecDepth 100000 in
theorem law_loop {b L : Nat} {xs : Nat → Int32} {nm : String} {l : Launch} {g : xG} {sz kc ks : Nat} (hl : l.stackTraces = false) {mo t : Nat} (hL : L ≤ 3072) (hb : b < sz) (hr : kc + 200 * 513 ≤ 601024 ∧ ks + 1000 * 513 ≤ 7293034) : ∀ (d k : Nat) (h : TH) (S : MS) (o : Nat → Int64), k + d = 512 → RR mo t k h S →
    AL b L xs nm l g sz (kc + 200 * k) (ks + 1000 * k) (LW g mo h S o) 23 (lvL t mo b (nI (6 * k))) [] := by
  intro d
  induction d with
  | zero =>
    intro k h S o hk hR
    refine ag_iload 0 dL_law_23 rfl ?_
    refine ag_aload_n 4 dL_law_25 rfl ?_
    refine ag_slen (L := L) (xs := xs) (fun s args c h => h.2.1) hb rfl dL_law_26 ?_
    refine ag_bipush (6 : Int32) dL_law_27 (by decide) ?_
    refine ag_isub dL_law_29 ?_
    refine ag_icmp_gt 1653 dL_law_30 (by decide) (fun _ => ?_) (fun c => ?_)
    · refine ag_iconst (1 : Int32) dL_law_1653 (by decide) ?_
      exact al_ret dL_law_1654 ⟨by omega, by omega⟩
    · exfalso
      apply c
      rw [Int32.lt_iff_toInt_lt, nI_toInt (show 6 * k < 2 ^ 31 by omega)]
      have := pk_sub_toInt (a := L) (b := 6) (by omega) (by omega)
      rw [show (Int32.ofNat L - 6 : Int32).toInt = (L : Int) - (6 : Nat) from this]
      omega
  | succ d ih =>
    intro k h S o hk hR
    refine ag_iload 0 dL_law_23 rfl ?_
    refine ag_aload_n 4 dL_law_25 rfl ?_
    refine ag_slen (L := L) (xs := xs) (fun s args c h => h.2.1) hb rfl dL_law_26 ?_
    refine ag_bipush (6 : Int32) dL_law_27 (by decide) ?_
    refine ag_isub dL_law_29 ?_
    refine ag_icmp_gt 1653 dL_law_30 (by decide) (fun _ => ?_) (fun c => ?_)
    · refine ag_iconst (1 : Int32) dL_law_1653 (by decide) ?_
      exact al_ret dL_law_1654 ⟨by omega, by omega⟩
    · have hi : 6 * k + 6 ≤ L := by
        rw [Int32.lt_iff_toInt_lt, nI_toInt (show 6 * k < 2 ^ 31 by omega)] at c
        have := pk_sub_toInt (a := L) (b := 6) (by omega) (by omega)
        rw [show (Int32.ofNat L - 6 : Int32).toInt = (L : Int) - (6 : Nat) from this] at c
        omega
      refine law_turn hl hL hb hi ⟨by omega, by omega⟩ (show k ≤ 4000 by omega) hR (fun h2 S2 o2 hR2 => ?_)
      refine ag_iinc (lvL t mo b (nI (6 * (k + 1)))) 0 dL_law_1647 rfl (show nI (6 * k) + Int32.ofInt 6 = nI (6 * (k + 1)) from nI_add (6 * k) 6) (show 4 < 7 by decide) rfl ?_
      refine ag_goto 23 dL_law_1650 (by decide) ?_
      exact ih (k + 1) h2 S2 o2 (by omega) hR2
