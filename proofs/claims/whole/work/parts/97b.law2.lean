/-! The law: a case a method (2). -/
set_option maxHeartbeats 4000000 in
set_option maxRecDepth 100000 in
theorem lc_liberties {b L : Nat} {xs : Nat → Int32} {nm : String} {l : Launch} {g : xG} {sz kc ks : Nat} (hl : l.stackTraces = false) {mo t i : Nat} {h h2 : TH} {S S2 : MS} {o o2 : Nat → Int64} {kv : Int32} {r9 : Int32} (hL : L ≤ 3072) (hb : b < sz) (hi : i + 6 ≤ L) (hD2 : LD mo h2) (hr : kc + 200 ≤ 601024 ∧ ks + 1000 ≤ 7293034)
    (hW : WT yL_liberties ML_liberties hhL_liberties rmL_liberties l g [va_rf (some t), .int (xs (i + 1)), .int (xs (i + 2)), .ref (mo + 39)] (LW g mo h S o) kv (LW g mo h2 S o2)) (h9 : fX9_liberties S (xs (i + 1)) (xs (i + 2)) = some (r9, S2)) (h47 : m_i S2 47 = kv) (hout : kv = 0 → o2 0 = r9.toInt64)
    (K : ∀ z, t_sz h2 ≤ z → AL b L xs nm l g sz (kc + 200) (ks + 1000) (LW g mo (s_Z h2 z) S2 o2) 1647 (lvL t mo b (nI i)) []) : AL b L xs nm l g sz kc ks (LW g mo h S o) 872 (lvL t mo b (nI i)) [] := by
  refine ag_qload_n 3 dL_law_872 rfl ?_
  refine al_rd (j := 1) 4 0 (by omega) hL hb rfl rfl dL_law_873 dL_law_874 dL_law_876 (by decide) dL_law_877 dL_law_878 ?_
  refine al_rd (j := 2) 4 0 (by omega) hL hb rfl rfl dL_law_879 dL_law_880 dL_law_882 (by decide) dL_law_883 dL_law_884 ?_
  refine ag_aload_n 1 dL_law_885 rfl ?_
  refine agl_call (fun s args c h => h.2.2) [va_rf (some t), .int (xs (i + 1)), .int (xs (i + 2)), .ref (mo + 39)] 4 hW ⟨wl3 (i := 96) rfl rfl, (ciL_liberties).1, (ciL_liberties).2.1, (ciL_liberties).2.2⟩ (wl3 (i := 97) rfl rfl) dL_law_886 rfl rfl (by simp [cat_q, cat_i, cat_l, cat_r]) ⟨Nat.le_of_ble_eq_true rfl, Nat.le_of_ble_eq_true rfl⟩ ⟨show kc + 2 ≤ 601024 by omega, show ks + 12 ≤ 7293034 by omega⟩ (fun z hz => ?_)
  have hDz : LD mo (s_Z h2 z) := hD2.Z hz
  show AL b L xs nm l g sz (kc + rmL_liberties.cells) (ks + rmL_liberties.slots) (LW g mo (s_Z h2 z) S o2) 889 _ _
  refine ag_istore _ dL_law_889 (show 5 < 7 by decide) rfl ?_
  refine ag_aload_n 3 dL_law_891 rfl ?_
  refine al_rd (j := 1) 5 1 (by omega) hL hb rfl rfl dL_law_892 dL_law_893 dL_law_895 (by decide) dL_law_896 dL_law_897 ?_
  refine al_rd (j := 2) 5 1 (by omega) hL hb rfl rfl dL_law_898 dL_law_899 dL_law_901 (by decide) dL_law_902 dL_law_903 ?_
  refine ag_callV 7 (some mo) [.int (xs (i + 1)), .int (xs (i + 2))] 2 rfl (LW_mo hDz) rfl rfl (ct9 (g := g) (o := o2) hDz (ctX9_liberties (sz := t_sz (s_Z h2 z)) hl S (xs (i + 1)) (xs (i + 2)) h9)) ⟨wl5 (i := 160) rfl rfl, (ciX9_liberties).1, (ciX9_liberties).2.1, (ciX9_liberties).2.2⟩ (wl5 (i := 161) rfl rfl) (wl5 (i := 162) rfl rfl) dL_law_904 rfl rfl (by simp [cat_q, cat_i, cat_l, cat_r]) ⟨Nat.le_of_ble_eq_true rfl, Nat.le_of_ble_eq_true rfl⟩ ⟨show kc + 2 + 0 ≤ 601024 by omega, show ks + 12 + 0 ≤ 7293034 by omega⟩ (fun _ => ?_)
  refine ag_istore _ dL_law_907 (show 6 < 7 by decide) rfl ?_
  refine ag_aload_n 4 dL_law_909 rfl ?_
  refine ag_callV 7 (some mo) [] 0 rfl (LW_mo hDz) rfl rfl (ct9t (g := g) (o := o2) hDz (ctX9_thrown (sz := t_sz (s_Z h2 z)) hl S2 (thr47 h47))) ⟨wl5 (i := 5) rfl rfl, ciX9_thrown.1, ciX9_thrown.2.1, ciX9_thrown.2.2⟩ (wl5 (i := 6) rfl rfl) (wl5 (i := 7) rfl rfl) dL_law_910 rfl rfl (by simp [cat_q, cat_i, cat_l, cat_r]) ⟨Nat.le_of_ble_eq_true rfl, Nat.le_of_ble_eq_true rfl⟩ ⟨show kc + 2 + 0 + 0 ≤ 601024 by omega, show ks + 12 + 0 + 0 ≤ 7293034 by omega⟩ (fun _ => ?_)
  refine ag_iload 1 dL_law_913 rfl ?_
  refine ag_icmp_eq 920 dL_law_915 (by decide) (fun _ => ?_) (fun c => absurd rfl c)
  refine ag_iload 1 dL_law_920 rfl ?_
  refine ag_if_ne 937 dL_law_922 (by decide) (fun _ => ?_) (fun h0 => ?_)
  · refine ag_goto 1647 dL_law_937 (by decide) ?_
    refine ag_lv [2, 3, 4, 5, 6] rfl ?_
    exact ag_widen (kc + 200) (ks + 1000) (show kc + 2 + 0 + 0 ≤ kc + 200 by omega) (show ks + 12 + 0 + 0 ≤ ks + 1000 by omega) (K z hz)
  · refine ag_aload_n 3 dL_law_925 rfl ?_
    refine ag_iconst (0 : Int32) dL_law_926 (by decide) ?_
    refine ag_lald (LW_out hDz) vin0 dL_law_927 ?_
    refine ag_iload 0 dL_law_928 rfl ?_
    refine ag_i2l dL_law_930 ?_
    refine ag_lcmp_eq 937 dL_law_931 dL_law_932 (by decide) (fun _ => ?_) (fun c => absurd (hout h0) c)
    refine ag_goto 1647 dL_law_937 (by decide) ?_
    refine ag_lv [2, 3, 4, 5, 6] rfl ?_
    exact ag_widen (kc + 200) (ks + 1000) (show kc + 2 + 0 + 0 ≤ kc + 200 by omega) (show ks + 12 + 0 + 0 ≤ ks + 1000 by omega) (K z hz)
set_option maxHeartbeats 4000000 in
set_option maxRecDepth 100000 in
theorem lc_flooded {b L : Nat} {xs : Nat → Int32} {nm : String} {l : Launch} {g : xG} {sz kc ks : Nat} (hl : l.stackTraces = false) {mo t i : Nat} {h h2 : TH} {S S2 : MS} {o o2 : Nat → Int64} {kv : Int32} {r9 : Int32} (hL : L ≤ 3072) (hb : b < sz) (hi : i + 6 ≤ L) (hD2 : LD mo h2) (hr : kc + 200 ≤ 601024 ∧ ks + 1000 ≤ 7293034)
    (hW : WT yL_flooded ML_flooded hhL_flooded rmL_flooded l g [va_rf (some t), .int (xs (i + 1)), .int (xs (i + 2)), .ref (mo + 39)] (LW g mo h S o) kv (LW g mo h2 S o2)) (h9 : fX9_flooded S (xs (i + 1)) (xs (i + 2)) = some (r9, S2)) (h47 : m_i S2 47 = kv) (hout : kv = 0 → o2 0 = r9.toInt64)
    (K : ∀ z, t_sz h2 ≤ z → AL b L xs nm l g sz (kc + 200) (ks + 1000) (LW g mo (s_Z h2 z) S2 o2) 1647 (lvL t mo b (nI i)) []) : AL b L xs nm l g sz kc ks (LW g mo h S o) 940 (lvL t mo b (nI i)) [] := by
  refine ag_qload_n 3 dL_law_940 rfl ?_
  refine al_rd (j := 1) 4 0 (by omega) hL hb rfl rfl dL_law_941 dL_law_942 dL_law_944 (by decide) dL_law_945 dL_law_946 ?_
  refine al_rd (j := 2) 4 0 (by omega) hL hb rfl rfl dL_law_947 dL_law_948 dL_law_950 (by decide) dL_law_951 dL_law_952 ?_
  refine ag_aload_n 1 dL_law_953 rfl ?_
  refine agl_call (fun s args c h => h.2.2) [va_rf (some t), .int (xs (i + 1)), .int (xs (i + 2)), .ref (mo + 39)] 4 hW ⟨wl3 (i := 107) rfl rfl, (ciL_flooded).1, (ciL_flooded).2.1, (ciL_flooded).2.2⟩ (wl3 (i := 108) rfl rfl) dL_law_954 rfl rfl (by simp [cat_q, cat_i, cat_l, cat_r]) ⟨Nat.le_of_ble_eq_true rfl, Nat.le_of_ble_eq_true rfl⟩ ⟨show kc + 2 ≤ 601024 by omega, show ks + 12 ≤ 7293034 by omega⟩ (fun z hz => ?_)
  have hDz : LD mo (s_Z h2 z) := hD2.Z hz
  show AL b L xs nm l g sz (kc + rmL_flooded.cells) (ks + rmL_flooded.slots) (LW g mo (s_Z h2 z) S o2) 957 _ _
  refine ag_istore _ dL_law_957 (show 5 < 7 by decide) rfl ?_
  refine ag_aload_n 3 dL_law_959 rfl ?_
  refine al_rd (j := 1) 5 1 (by omega) hL hb rfl rfl dL_law_960 dL_law_961 dL_law_963 (by decide) dL_law_964 dL_law_965 ?_
  refine al_rd (j := 2) 5 1 (by omega) hL hb rfl rfl dL_law_966 dL_law_967 dL_law_969 (by decide) dL_law_970 dL_law_971 ?_
  refine ag_callV 7 (some mo) [.int (xs (i + 1)), .int (xs (i + 2))] 2 rfl (LW_mo hDz) rfl rfl (ct9 (g := g) (o := o2) hDz (ctX9_flooded (sz := t_sz (s_Z h2 z)) hl S (xs (i + 1)) (xs (i + 2)) h9)) ⟨wl5 (i := 171) rfl rfl, (ciX9_flooded).1, (ciX9_flooded).2.1, (ciX9_flooded).2.2⟩ (wl5 (i := 172) rfl rfl) (wl5 (i := 173) rfl rfl) dL_law_972 rfl rfl (by simp [cat_q, cat_i, cat_l, cat_r]) ⟨Nat.le_of_ble_eq_true rfl, Nat.le_of_ble_eq_true rfl⟩ ⟨show kc + 2 + 0 ≤ 601024 by omega, show ks + 12 + 0 ≤ 7293034 by omega⟩ (fun _ => ?_)
  refine ag_istore _ dL_law_975 (show 6 < 7 by decide) rfl ?_
  refine ag_aload_n 4 dL_law_977 rfl ?_
  refine ag_callV 7 (some mo) [] 0 rfl (LW_mo hDz) rfl rfl (ct9t (g := g) (o := o2) hDz (ctX9_thrown (sz := t_sz (s_Z h2 z)) hl S2 (thr47 h47))) ⟨wl5 (i := 5) rfl rfl, ciX9_thrown.1, ciX9_thrown.2.1, ciX9_thrown.2.2⟩ (wl5 (i := 6) rfl rfl) (wl5 (i := 7) rfl rfl) dL_law_978 rfl rfl (by simp [cat_q, cat_i, cat_l, cat_r]) ⟨Nat.le_of_ble_eq_true rfl, Nat.le_of_ble_eq_true rfl⟩ ⟨show kc + 2 + 0 + 0 ≤ 601024 by omega, show ks + 12 + 0 + 0 ≤ 7293034 by omega⟩ (fun _ => ?_)
  refine ag_iload 1 dL_law_981 rfl ?_
  refine ag_icmp_eq 988 dL_law_983 (by decide) (fun _ => ?_) (fun c => absurd rfl c)
  refine ag_iload 1 dL_law_988 rfl ?_
  refine ag_if_ne 1005 dL_law_990 (by decide) (fun _ => ?_) (fun h0 => ?_)
  · refine ag_goto 1647 dL_law_1005 (by decide) ?_
    refine ag_lv [2, 3, 4, 5, 6] rfl ?_
    exact ag_widen (kc + 200) (ks + 1000) (show kc + 2 + 0 + 0 ≤ kc + 200 by omega) (show ks + 12 + 0 + 0 ≤ ks + 1000 by omega) (K z hz)
  · refine ag_aload_n 3 dL_law_993 rfl ?_
    refine ag_iconst (0 : Int32) dL_law_994 (by decide) ?_
    refine ag_lald (LW_out hDz) vin0 dL_law_995 ?_
    refine ag_iload 0 dL_law_996 rfl ?_
    refine ag_i2l dL_law_998 ?_
    refine ag_lcmp_eq 1005 dL_law_999 dL_law_1000 (by decide) (fun _ => ?_) (fun c => absurd (hout h0) c)
    refine ag_goto 1647 dL_law_1005 (by decide) ?_
    refine ag_lv [2, 3, 4, 5, 6] rfl ?_
    exact ag_widen (kc + 200) (ks + 1000) (show kc + 2 + 0 + 0 ≤ kc + 200 by omega) (show ks + 12 + 0 + 0 ≤ ks + 1000 by omega) (K z hz)
set_option maxHeartbeats 4000000 in
set_option maxRecDepth 100000 in
theorem lc_judge {b L : Nat} {xs : Nat → Int32} {nm : String} {l : Launch} {g : xG} {sz kc ks : Nat} (hl : l.stackTraces = false) {mo t i : Nat} {h h2 : TH} {S S2 : MS} {o o2 : Nat → Int64} {kv : Int32} {r9 : Int32} (hL : L ≤ 3072) (hb : b < sz) (hi : i + 6 ≤ L) (hD2 : LD mo h2) (hr : kc + 200 ≤ 601024 ∧ ks + 1000 ≤ 7293034)
    (hW : WT yL_judge ML_judge hhL_judge rmL_judge l g [va_rf (some t), .int (xs (i + 1)), .ref (mo + 39)] (LW g mo h S o) kv (LW g mo h2 S o2)) (h9 : fX9_judge S (xs (i + 1)) = some (r9, S2)) (h47 : m_i S2 47 = kv) (hout : kv = 0 → o2 0 = r9.toInt64)
    (K : ∀ z, t_sz h2 ≤ z → AL b L xs nm l g sz (kc + 200) (ks + 1000) (LW g mo (s_Z h2 z) S2 o2) 1647 (lvL t mo b (nI i)) []) : AL b L xs nm l g sz kc ks (LW g mo h S o) 1008 (lvL t mo b (nI i)) [] := by
  refine ag_qload_n 3 dL_law_1008 rfl ?_
  refine al_rd (j := 1) 4 0 (by omega) hL hb rfl rfl dL_law_1009 dL_law_1010 dL_law_1012 (by decide) dL_law_1013 dL_law_1014 ?_
  refine ag_aload_n 1 dL_law_1015 rfl ?_
  refine agl_call (fun s args c h => h.2.2) [va_rf (some t), .int (xs (i + 1)), .ref (mo + 39)] 3 hW ⟨wl3 (i := 122) rfl rfl, (ciL_judge).1, (ciL_judge).2.1, (ciL_judge).2.2⟩ (wl3 (i := 123) rfl rfl) dL_law_1016 rfl rfl (by simp [cat_q, cat_i, cat_l, cat_r]) ⟨Nat.le_of_ble_eq_true rfl, Nat.le_of_ble_eq_true rfl⟩ ⟨show kc + 2 ≤ 601024 by omega, show ks + 12 ≤ 7293034 by omega⟩ (fun z hz => ?_)
  have hDz : LD mo (s_Z h2 z) := hD2.Z hz
  show AL b L xs nm l g sz (kc + rmL_judge.cells) (ks + rmL_judge.slots) (LW g mo (s_Z h2 z) S o2) 1019 _ _
  refine ag_istore _ dL_law_1019 (show 5 < 7 by decide) rfl ?_
  refine ag_aload_n 3 dL_law_1021 rfl ?_
  refine al_rd (j := 1) 5 1 (by omega) hL hb rfl rfl dL_law_1022 dL_law_1023 dL_law_1025 (by decide) dL_law_1026 dL_law_1027 ?_
  refine ag_callV 7 (some mo) [.int (xs (i + 1))] 1 rfl (LW_mo hDz) rfl rfl (ct9 (g := g) (o := o2) hDz (ctX9_judge (sz := t_sz (s_Z h2 z)) hl S (xs (i + 1)) h9)) ⟨wl5 (i := 175) rfl rfl, (ciX9_judge).1, (ciX9_judge).2.1, (ciX9_judge).2.2⟩ (wl5 (i := 176) rfl rfl) (wl5 (i := 177) rfl rfl) dL_law_1028 rfl rfl (by simp [cat_q, cat_i, cat_l, cat_r]) ⟨Nat.le_of_ble_eq_true rfl, Nat.le_of_ble_eq_true rfl⟩ ⟨show kc + 2 + 0 ≤ 601024 by omega, show ks + 12 + 0 ≤ 7293034 by omega⟩ (fun _ => ?_)
  refine ag_istore _ dL_law_1031 (show 6 < 7 by decide) rfl ?_
  refine ag_aload_n 4 dL_law_1033 rfl ?_
  refine ag_callV 7 (some mo) [] 0 rfl (LW_mo hDz) rfl rfl (ct9t (g := g) (o := o2) hDz (ctX9_thrown (sz := t_sz (s_Z h2 z)) hl S2 (thr47 h47))) ⟨wl5 (i := 5) rfl rfl, ciX9_thrown.1, ciX9_thrown.2.1, ciX9_thrown.2.2⟩ (wl5 (i := 6) rfl rfl) (wl5 (i := 7) rfl rfl) dL_law_1034 rfl rfl (by simp [cat_q, cat_i, cat_l, cat_r]) ⟨Nat.le_of_ble_eq_true rfl, Nat.le_of_ble_eq_true rfl⟩ ⟨show kc + 2 + 0 + 0 ≤ 601024 by omega, show ks + 12 + 0 + 0 ≤ 7293034 by omega⟩ (fun _ => ?_)
  refine ag_iload 1 dL_law_1037 rfl ?_
  refine ag_icmp_eq 1044 dL_law_1039 (by decide) (fun _ => ?_) (fun c => absurd rfl c)
  refine ag_iload 1 dL_law_1044 rfl ?_
  refine ag_if_ne 1061 dL_law_1046 (by decide) (fun _ => ?_) (fun h0 => ?_)
  · refine ag_goto 1647 dL_law_1061 (by decide) ?_
    refine ag_lv [2, 3, 4, 5, 6] rfl ?_
    exact ag_widen (kc + 200) (ks + 1000) (show kc + 2 + 0 + 0 ≤ kc + 200 by omega) (show ks + 12 + 0 + 0 ≤ ks + 1000 by omega) (K z hz)
  · refine ag_aload_n 3 dL_law_1049 rfl ?_
    refine ag_iconst (0 : Int32) dL_law_1050 (by decide) ?_
    refine ag_lald (LW_out hDz) vin0 dL_law_1051 ?_
    refine ag_iload 0 dL_law_1052 rfl ?_
    refine ag_i2l dL_law_1054 ?_
    refine ag_lcmp_eq 1061 dL_law_1055 dL_law_1056 (by decide) (fun _ => ?_) (fun c => absurd (hout h0) c)
    refine ag_goto 1647 dL_law_1061 (by decide) ?_
    refine ag_lv [2, 3, 4, 5, 6] rfl ?_
    exact ag_widen (kc + 200) (ks + 1000) (show kc + 2 + 0 + 0 ≤ kc + 200 by omega) (show ks + 12 + 0 + 0 ≤ ks + 1000 by omega) (K z hz)
set_option maxHeartbeats 4000000 in
set_option maxRecDepth 100000 in
theorem lc_due {b L : Nat} {xs : Nat → Int32} {nm : String} {l : Launch} {g : xG} {sz kc ks : Nat} (hl : l.stackTraces = false) {mo t i : Nat} {h h2 : TH} {S S2 : MS} {o o2 : Nat → Int64} {kv : Int32} {r9 : Int32} (hL : L ≤ 3072) (hb : b < sz) (hi : i + 6 ≤ L) (hD2 : LD mo h2) (hr : kc + 200 ≤ 601024 ∧ ks + 1000 ≤ 7293034)
    (hW : WT yL_due ML_due hhL_due rmL_due l g [va_rf (some t), .int (xs (i + 1)), .ref (mo + 39)] (LW g mo h S o) kv (LW g mo h2 S o2)) (h9 : fX9_due S (xs (i + 1)) = some (r9, S2)) (h47 : m_i S2 47 = kv) (hout : kv = 0 → o2 0 = r9.toInt64)
    (K : ∀ z, t_sz h2 ≤ z → AL b L xs nm l g sz (kc + 200) (ks + 1000) (LW g mo (s_Z h2 z) S2 o2) 1647 (lvL t mo b (nI i)) []) : AL b L xs nm l g sz kc ks (LW g mo h S o) 1064 (lvL t mo b (nI i)) [] := by
  refine ag_qload_n 3 dL_law_1064 rfl ?_
  refine al_rd (j := 1) 4 0 (by omega) hL hb rfl rfl dL_law_1065 dL_law_1066 dL_law_1068 (by decide) dL_law_1069 dL_law_1070 ?_
  refine ag_aload_n 1 dL_law_1071 rfl ?_
  refine agl_call (fun s args c h => h.2.2) [va_rf (some t), .int (xs (i + 1)), .ref (mo + 39)] 3 hW ⟨wl3 (i := 135) rfl rfl, (ciL_due).1, (ciL_due).2.1, (ciL_due).2.2⟩ (wl3 (i := 136) rfl rfl) dL_law_1072 rfl rfl (by simp [cat_q, cat_i, cat_l, cat_r]) ⟨Nat.le_of_ble_eq_true rfl, Nat.le_of_ble_eq_true rfl⟩ ⟨show kc + 1 ≤ 601024 by omega, show ks + 6 ≤ 7293034 by omega⟩ (fun z hz => ?_)
  have hDz : LD mo (s_Z h2 z) := hD2.Z hz
  show AL b L xs nm l g sz (kc + rmL_due.cells) (ks + rmL_due.slots) (LW g mo (s_Z h2 z) S o2) 1075 _ _
  refine ag_istore _ dL_law_1075 (show 5 < 7 by decide) rfl ?_
  refine ag_aload_n 3 dL_law_1077 rfl ?_
  refine al_rd (j := 1) 5 1 (by omega) hL hb rfl rfl dL_law_1078 dL_law_1079 dL_law_1081 (by decide) dL_law_1082 dL_law_1083 ?_
  refine ag_callV 7 (some mo) [.int (xs (i + 1))] 1 rfl (LW_mo hDz) rfl rfl (ct9 (g := g) (o := o2) hDz (ctX9_due (sz := t_sz (s_Z h2 z)) hl S (xs (i + 1)) h9)) ⟨wl5 (i := 195) rfl rfl, (ciX9_due).1, (ciX9_due).2.1, (ciX9_due).2.2⟩ (wl5 (i := 196) rfl rfl) (wl5 (i := 197) rfl rfl) dL_law_1084 rfl rfl (by simp [cat_q, cat_i, cat_l, cat_r]) ⟨Nat.le_of_ble_eq_true rfl, Nat.le_of_ble_eq_true rfl⟩ ⟨show kc + 1 + 0 ≤ 601024 by omega, show ks + 6 + 0 ≤ 7293034 by omega⟩ (fun _ => ?_)
  refine ag_istore _ dL_law_1087 (show 6 < 7 by decide) rfl ?_
  refine ag_aload_n 4 dL_law_1089 rfl ?_
  refine ag_callV 7 (some mo) [] 0 rfl (LW_mo hDz) rfl rfl (ct9t (g := g) (o := o2) hDz (ctX9_thrown (sz := t_sz (s_Z h2 z)) hl S2 (thr47 h47))) ⟨wl5 (i := 5) rfl rfl, ciX9_thrown.1, ciX9_thrown.2.1, ciX9_thrown.2.2⟩ (wl5 (i := 6) rfl rfl) (wl5 (i := 7) rfl rfl) dL_law_1090 rfl rfl (by simp [cat_q, cat_i, cat_l, cat_r]) ⟨Nat.le_of_ble_eq_true rfl, Nat.le_of_ble_eq_true rfl⟩ ⟨show kc + 1 + 0 + 0 ≤ 601024 by omega, show ks + 6 + 0 + 0 ≤ 7293034 by omega⟩ (fun _ => ?_)
  refine ag_iload 1 dL_law_1093 rfl ?_
  refine ag_icmp_eq 1100 dL_law_1095 (by decide) (fun _ => ?_) (fun c => absurd rfl c)
  refine ag_iload 1 dL_law_1100 rfl ?_
  refine ag_if_ne 1117 dL_law_1102 (by decide) (fun _ => ?_) (fun h0 => ?_)
  · refine ag_goto 1647 dL_law_1117 (by decide) ?_
    refine ag_lv [2, 3, 4, 5, 6] rfl ?_
    exact ag_widen (kc + 200) (ks + 1000) (show kc + 1 + 0 + 0 ≤ kc + 200 by omega) (show ks + 6 + 0 + 0 ≤ ks + 1000 by omega) (K z hz)
  · refine ag_aload_n 3 dL_law_1105 rfl ?_
    refine ag_iconst (0 : Int32) dL_law_1106 (by decide) ?_
    refine ag_lald (LW_out hDz) vin0 dL_law_1107 ?_
    refine ag_iload 0 dL_law_1108 rfl ?_
    refine ag_i2l dL_law_1110 ?_
    refine ag_lcmp_eq 1117 dL_law_1111 dL_law_1112 (by decide) (fun _ => ?_) (fun c => absurd (hout h0) c)
    refine ag_goto 1647 dL_law_1117 (by decide) ?_
    refine ag_lv [2, 3, 4, 5, 6] rfl ?_
    exact ag_widen (kc + 200) (ks + 1000) (show kc + 1 + 0 + 0 ≤ kc + 200 by omega) (show ks + 6 + 0 + 0 ≤ ks + 1000 by omega) (K z hz)
set_option maxHeartbeats 4000000 in
set_option maxRecDepth 100000 in
theorem lc_ladder {b L : Nat} {xs : Nat → Int32} {nm : String} {l : Launch} {g : xG} {sz kc ks : Nat} (hl : l.stackTraces = false) {mo t i : Nat} {h h2 : TH} {S S2 : MS} {o o2 : Nat → Int64} {kv : Int32} {r9 : Bool} (hL : L ≤ 3072) (hb : b < sz) (hi : i + 6 ≤ L) (hD2 : LD mo h2) (hr : kc + 200 ≤ 601024 ∧ ks + 1000 ≤ 7293034)
    (hW : WT yL_ladder ML_ladder hhL_ladder rmL_ladder l g [va_rf (some t), .int (xs (i + 1)), .int (xs (i + 2)), .int (xs (i + 3)), .ref (mo + 39)] (LW g mo h S o) kv (LW g mo h2 S o2)) (h9 : fX9_ladder S (xs (i + 1)) (xs (i + 2)) (xs (i + 3)) = some (r9, S2)) (h47 : m_i S2 47 = kv) (hout : kv = 0 → o2 0 = (if r9 = true then (1 : Int64) else 0))
    (K : ∀ z, t_sz h2 ≤ z → AL b L xs nm l g sz (kc + 200) (ks + 1000) (LW g mo (s_Z h2 z) S2 o2) 1647 (lvL t mo b (nI i)) []) : AL b L xs nm l g sz kc ks (LW g mo h S o) 1133 (lvL t mo b (nI i)) [] := by
  refine ag_qload_n 3 dL_law_1133 rfl ?_
  refine al_rd (j := 1) 4 0 (by omega) hL hb rfl rfl dL_law_1134 dL_law_1135 dL_law_1137 (by decide) dL_law_1138 dL_law_1139 ?_
  refine al_rd (j := 2) 4 0 (by omega) hL hb rfl rfl dL_law_1140 dL_law_1141 dL_law_1143 (by decide) dL_law_1144 dL_law_1145 ?_
  refine al_rd (j := 3) 4 0 (by omega) hL hb rfl rfl dL_law_1146 dL_law_1147 dL_law_1149 (by decide) dL_law_1150 dL_law_1151 ?_
  refine ag_aload_n 1 dL_law_1152 rfl ?_
  refine agl_call (fun s args c h => h.2.2) [va_rf (some t), .int (xs (i + 1)), .int (xs (i + 2)), .int (xs (i + 3)), .ref (mo + 39)] 5 hW ⟨wl3 (i := 143) rfl rfl, (ciL_ladder).1, (ciL_ladder).2.1, (ciL_ladder).2.2⟩ (wl3 (i := 144) rfl rfl) dL_law_1153 rfl rfl (by simp [cat_q, cat_i, cat_l, cat_r]) ⟨Nat.le_of_ble_eq_true rfl, Nat.le_of_ble_eq_true rfl⟩ ⟨show kc + 3 ≤ 601024 by omega, show ks + 18 ≤ 7293034 by omega⟩ (fun z hz => ?_)
  have hDz : LD mo (s_Z h2 z) := hD2.Z hz
  show AL b L xs nm l g sz (kc + rmL_ladder.cells) (ks + rmL_ladder.slots) (LW g mo (s_Z h2 z) S o2) 1156 _ _
  refine ag_istore _ dL_law_1156 (show 5 < 7 by decide) rfl ?_
  refine ag_aload_n 3 dL_law_1158 rfl ?_
  refine al_rd (j := 1) 5 1 (by omega) hL hb rfl rfl dL_law_1159 dL_law_1160 dL_law_1162 (by decide) dL_law_1163 dL_law_1164 ?_
  refine al_rd (j := 2) 5 1 (by omega) hL hb rfl rfl dL_law_1165 dL_law_1166 dL_law_1168 (by decide) dL_law_1169 dL_law_1170 ?_
  refine al_rd (j := 3) 5 1 (by omega) hL hb rfl rfl dL_law_1171 dL_law_1172 dL_law_1174 (by decide) dL_law_1175 dL_law_1176 ?_
  refine ag_callV 7 (some mo) [.int (xs (i + 1)), .int (xs (i + 2)), .int (xs (i + 3))] 3 rfl (LW_mo hDz) rfl rfl (ct9 (g := g) (o := o2) hDz (ctX9_ladder (sz := t_sz (s_Z h2 z)) hl S (xs (i + 1)) (xs (i + 2)) (xs (i + 3)) h9)) ⟨wl5 (i := 203) rfl rfl, (ciX9_ladder).1, (ciX9_ladder).2.1, (ciX9_ladder).2.2⟩ (wl5 (i := 204) rfl rfl) (wl5 (i := 205) rfl rfl) dL_law_1177 rfl rfl (by simp [cat_q, cat_i, cat_l, cat_r]) ⟨Nat.le_of_ble_eq_true rfl, Nat.le_of_ble_eq_true rfl⟩ ⟨show kc + 3 + 0 ≤ 601024 by omega, show ks + 18 + 0 ≤ 7293034 by omega⟩ (fun _ => ?_)
  refine ag_istore _ dL_law_1180 (show 6 < 7 by decide) rfl ?_
  refine ag_aload_n 4 dL_law_1182 rfl ?_
  refine ag_callV 7 (some mo) [] 0 rfl (LW_mo hDz) rfl rfl (ct9t (g := g) (o := o2) hDz (ctX9_thrown (sz := t_sz (s_Z h2 z)) hl S2 (thr47 h47))) ⟨wl5 (i := 5) rfl rfl, ciX9_thrown.1, ciX9_thrown.2.1, ciX9_thrown.2.2⟩ (wl5 (i := 6) rfl rfl) (wl5 (i := 7) rfl rfl) dL_law_1183 rfl rfl (by simp [cat_q, cat_i, cat_l, cat_r]) ⟨Nat.le_of_ble_eq_true rfl, Nat.le_of_ble_eq_true rfl⟩ ⟨show kc + 3 + 0 + 0 ≤ 601024 by omega, show ks + 18 + 0 + 0 ≤ 7293034 by omega⟩ (fun _ => ?_)
  refine ag_iload 1 dL_law_1186 rfl ?_
  refine ag_icmp_eq 1193 dL_law_1188 (by decide) (fun _ => ?_) (fun c => absurd rfl c)
  refine ag_iload 1 dL_law_1193 rfl ?_
  refine ag_if_ne 1217 dL_law_1195 (by decide) (fun _ => ?_) (fun h0 => ?_)
  · refine ag_goto 1647 dL_law_1217 (by decide) ?_
    refine ag_lv [2, 3, 4, 5, 6] rfl ?_
    exact ag_widen (kc + 200) (ks + 1000) (show kc + 3 + 0 + 0 ≤ kc + 200 by omega) (show ks + 18 + 0 + 0 ≤ ks + 1000 by omega) (K z hz)
  · refine ag_aload_n 3 dL_law_1198 rfl ?_
    refine ag_iconst (0 : Int32) dL_law_1199 (by decide) ?_
    refine ag_lald (LW_out hDz) vin0 dL_law_1200 ?_
    refine ag_iload 0 dL_law_1201 rfl ?_
    cases r9
    · refine ag_ifb_eq 1210 dL_law_1203 (by decide) (fun _ => ?_) (fun c => absurd rfl c)
      refine ag_lconst (0 : Int64) dL_law_1210 rfl ?_
      refine ag_lcmp_eq 1217 dL_law_1211 dL_law_1212 (by decide) (fun _ => ?_) (fun c => absurd (hout h0) c)
      refine ag_goto 1647 dL_law_1217 (by decide) ?_
      refine ag_lv [2, 3, 4, 5, 6] rfl ?_
      exact ag_widen (kc + 200) (ks + 1000) (show kc + 3 + 0 + 0 ≤ kc + 200 by omega) (show ks + 18 + 0 + 0 ≤ ks + 1000 by omega) (K z hz)
    · refine ag_ifb_eq 1210 dL_law_1203 (by decide) (fun c => by cases c) (fun _ => ?_)
      refine ag_lconst (1 : Int64) dL_law_1206 rfl ?_
      refine ag_goto 1211 dL_law_1207 (by decide) ?_
      refine ag_lcmp_eq 1217 dL_law_1211 dL_law_1212 (by decide) (fun _ => ?_) (fun c => absurd (hout h0) c)
      refine ag_goto 1647 dL_law_1217 (by decide) ?_
      refine ag_lv [2, 3, 4, 5, 6] rfl ?_
      exact ag_widen (kc + 200) (ks + 1000) (show kc + 3 + 0 + 0 ≤ kc + 200 by omega) (show ks + 18 + 0 + 0 ≤ ks + 1000 by omega) (K z hz)
set_option maxHeartbeats 4000000 in
set_option maxRecDepth 100000 in
theorem lc_net {b L : Nat} {xs : Nat → Int32} {nm : String} {l : Launch} {g : xG} {sz kc ks : Nat} (hl : l.stackTraces = false) {mo t i : Nat} {h h2 : TH} {S S2 : MS} {o o2 : Nat → Int64} {kv : Int32} {r9 : Bool} (hL : L ≤ 3072) (hb : b < sz) (hi : i + 6 ≤ L) (hD2 : LD mo h2) (hr : kc + 200 ≤ 601024 ∧ ks + 1000 ≤ 7293034)
    (hW : WT yL_net ML_net hhL_net rmL_net l g [va_rf (some t), .int (xs (i + 1)), .int (xs (i + 2)), .int (xs (i + 3)), .ref (mo + 39)] (LW g mo h S o) kv (LW g mo h2 S o2)) (h9 : fX9_net S (xs (i + 1)) (xs (i + 2)) (xs (i + 3)) = some (r9, S2)) (h47 : m_i S2 47 = kv) (hout : kv = 0 → o2 0 = (if r9 = true then (1 : Int64) else 0))
    (K : ∀ z, t_sz h2 ≤ z → AL b L xs nm l g sz (kc + 200) (ks + 1000) (LW g mo (s_Z h2 z) S2 o2) 1647 (lvL t mo b (nI i)) []) : AL b L xs nm l g sz kc ks (LW g mo h S o) 1220 (lvL t mo b (nI i)) [] := by
  refine ag_qload_n 3 dL_law_1220 rfl ?_
  refine al_rd (j := 1) 4 0 (by omega) hL hb rfl rfl dL_law_1221 dL_law_1222 dL_law_1224 (by decide) dL_law_1225 dL_law_1226 ?_
  refine al_rd (j := 2) 4 0 (by omega) hL hb rfl rfl dL_law_1227 dL_law_1228 dL_law_1230 (by decide) dL_law_1231 dL_law_1232 ?_
  refine al_rd (j := 3) 4 0 (by omega) hL hb rfl rfl dL_law_1233 dL_law_1234 dL_law_1236 (by decide) dL_law_1237 dL_law_1238 ?_
  refine ag_aload_n 1 dL_law_1239 rfl ?_
  refine agl_call (fun s args c h => h.2.2) [va_rf (some t), .int (xs (i + 1)), .int (xs (i + 2)), .int (xs (i + 3)), .ref (mo + 39)] 5 hW ⟨wl3 (i := 173) rfl rfl, (ciL_net).1, (ciL_net).2.1, (ciL_net).2.2⟩ (wl3 (i := 174) rfl rfl) dL_law_1240 rfl rfl (by simp [cat_q, cat_i, cat_l, cat_r]) ⟨Nat.le_of_ble_eq_true rfl, Nat.le_of_ble_eq_true rfl⟩ ⟨show kc + 3 ≤ 601024 by omega, show ks + 18 ≤ 7293034 by omega⟩ (fun z hz => ?_)
  have hDz : LD mo (s_Z h2 z) := hD2.Z hz
  show AL b L xs nm l g sz (kc + rmL_net.cells) (ks + rmL_net.slots) (LW g mo (s_Z h2 z) S o2) 1243 _ _
  refine ag_istore _ dL_law_1243 (show 5 < 7 by decide) rfl ?_
  refine ag_aload_n 3 dL_law_1245 rfl ?_
  refine al_rd (j := 1) 5 1 (by omega) hL hb rfl rfl dL_law_1246 dL_law_1247 dL_law_1249 (by decide) dL_law_1250 dL_law_1251 ?_
  refine al_rd (j := 2) 5 1 (by omega) hL hb rfl rfl dL_law_1252 dL_law_1253 dL_law_1255 (by decide) dL_law_1256 dL_law_1257 ?_
  refine al_rd (j := 3) 5 1 (by omega) hL hb rfl rfl dL_law_1258 dL_law_1259 dL_law_1261 (by decide) dL_law_1262 dL_law_1263 ?_
  refine ag_callV 7 (some mo) [.int (xs (i + 1)), .int (xs (i + 2)), .int (xs (i + 3))] 3 rfl (LW_mo hDz) rfl rfl (ct9 (g := g) (o := o2) hDz (ctX9_net (sz := t_sz (s_Z h2 z)) hl S (xs (i + 1)) (xs (i + 2)) (xs (i + 3)) h9)) ⟨wl5 (i := 234) rfl rfl, (ciX9_net).1, (ciX9_net).2.1, (ciX9_net).2.2⟩ (wl5 (i := 235) rfl rfl) (wl5 (i := 236) rfl rfl) dL_law_1264 rfl rfl (by simp [cat_q, cat_i, cat_l, cat_r]) ⟨Nat.le_of_ble_eq_true rfl, Nat.le_of_ble_eq_true rfl⟩ ⟨show kc + 3 + 0 ≤ 601024 by omega, show ks + 18 + 0 ≤ 7293034 by omega⟩ (fun _ => ?_)
  refine ag_istore _ dL_law_1267 (show 6 < 7 by decide) rfl ?_
  refine ag_aload_n 4 dL_law_1269 rfl ?_
  refine ag_callV 7 (some mo) [] 0 rfl (LW_mo hDz) rfl rfl (ct9t (g := g) (o := o2) hDz (ctX9_thrown (sz := t_sz (s_Z h2 z)) hl S2 (thr47 h47))) ⟨wl5 (i := 5) rfl rfl, ciX9_thrown.1, ciX9_thrown.2.1, ciX9_thrown.2.2⟩ (wl5 (i := 6) rfl rfl) (wl5 (i := 7) rfl rfl) dL_law_1270 rfl rfl (by simp [cat_q, cat_i, cat_l, cat_r]) ⟨Nat.le_of_ble_eq_true rfl, Nat.le_of_ble_eq_true rfl⟩ ⟨show kc + 3 + 0 + 0 ≤ 601024 by omega, show ks + 18 + 0 + 0 ≤ 7293034 by omega⟩ (fun _ => ?_)
  refine ag_iload 1 dL_law_1273 rfl ?_
  refine ag_icmp_eq 1280 dL_law_1275 (by decide) (fun _ => ?_) (fun c => absurd rfl c)
  refine ag_iload 1 dL_law_1280 rfl ?_
  refine ag_if_ne 1304 dL_law_1282 (by decide) (fun _ => ?_) (fun h0 => ?_)
  · refine ag_goto 1647 dL_law_1304 (by decide) ?_
    refine ag_lv [2, 3, 4, 5, 6] rfl ?_
    exact ag_widen (kc + 200) (ks + 1000) (show kc + 3 + 0 + 0 ≤ kc + 200 by omega) (show ks + 18 + 0 + 0 ≤ ks + 1000 by omega) (K z hz)
  · refine ag_aload_n 3 dL_law_1285 rfl ?_
    refine ag_iconst (0 : Int32) dL_law_1286 (by decide) ?_
    refine ag_lald (LW_out hDz) vin0 dL_law_1287 ?_
    refine ag_iload 0 dL_law_1288 rfl ?_
    cases r9
    · refine ag_ifb_eq 1297 dL_law_1290 (by decide) (fun _ => ?_) (fun c => absurd rfl c)
      refine ag_lconst (0 : Int64) dL_law_1297 rfl ?_
      refine ag_lcmp_eq 1304 dL_law_1298 dL_law_1299 (by decide) (fun _ => ?_) (fun c => absurd (hout h0) c)
      refine ag_goto 1647 dL_law_1304 (by decide) ?_
      refine ag_lv [2, 3, 4, 5, 6] rfl ?_
      exact ag_widen (kc + 200) (ks + 1000) (show kc + 3 + 0 + 0 ≤ kc + 200 by omega) (show ks + 18 + 0 + 0 ≤ ks + 1000 by omega) (K z hz)
    · refine ag_ifb_eq 1297 dL_law_1290 (by decide) (fun c => by cases c) (fun _ => ?_)
      refine ag_lconst (1 : Int64) dL_law_1293 rfl ?_
      refine ag_goto 1298 dL_law_1294 (by decide) ?_
      refine ag_lcmp_eq 1304 dL_law_1298 dL_law_1299 (by decide) (fun _ => ?_) (fun c => absurd (hout h0) c)
      refine ag_goto 1647 dL_law_1304 (by decide) ?_
      refine ag_lv [2, 3, 4, 5, 6] rfl ?_
      exact ag_widen (kc + 200) (ks + 1000) (show kc + 3 + 0 + 0 ≤ kc + 200 by omega) (show ks + 18 + 0 + 0 ≤ ks + 1000 by omega) (K z hz)
set_option maxHeartbeats 4000000 in
set_option maxRecDepth 100000 in
theorem lc_lesson {b L : Nat} {xs : Nat → Int32} {nm : String} {l : Launch} {g : xG} {sz kc ks : Nat} (hl : l.stackTraces = false) {mo t i : Nat} {h h2 : TH} {S S2 : MS} {o o2 : Nat → Int64} {kv : Int32} {r9 : Int32} (hL : L ≤ 3072) (hb : b < sz) (hi : i + 6 ≤ L) (hD2 : LD mo h2) (hr : kc + 200 ≤ 601024 ∧ ks + 1000 ≤ 7293034)
    (hW : WT yL_lesson ML_lesson hhL_lesson rmL_lesson l g [va_rf (some t), .int (xs (i + 1)), .int (xs (i + 2)), .ref (mo + 39)] (LW g mo h S o) kv (LW g mo h2 S o2)) (h9 : fX9_lesson S (xs (i + 1)) (xs (i + 2)) = some (r9, S2)) (h47 : m_i S2 47 = kv) (hout : kv = 0 → o2 0 = r9.toInt64)
    (K : ∀ z, t_sz h2 ≤ z → AL b L xs nm l g sz (kc + 200) (ks + 1000) (LW g mo (s_Z h2 z) S2 o2) 1647 (lvL t mo b (nI i)) []) : AL b L xs nm l g sz kc ks (LW g mo h S o) 1307 (lvL t mo b (nI i)) [] := by
  refine ag_qload_n 3 dL_law_1307 rfl ?_
  refine al_rd (j := 1) 4 0 (by omega) hL hb rfl rfl dL_law_1308 dL_law_1309 dL_law_1311 (by decide) dL_law_1312 dL_law_1313 ?_
  refine al_rd (j := 2) 4 0 (by omega) hL hb rfl rfl dL_law_1314 dL_law_1315 dL_law_1317 (by decide) dL_law_1318 dL_law_1319 ?_
  refine ag_aload_n 1 dL_law_1320 rfl ?_
  refine agl_call (fun s args c h => h.2.2) [va_rf (some t), .int (xs (i + 1)), .int (xs (i + 2)), .ref (mo + 39)] 4 hW ⟨wl3 (i := 180) rfl rfl, (ciL_lesson).1, (ciL_lesson).2.1, (ciL_lesson).2.2⟩ (wl3 (i := 181) rfl rfl) dL_law_1321 rfl rfl (by simp [cat_q, cat_i, cat_l, cat_r]) ⟨Nat.le_of_ble_eq_true rfl, Nat.le_of_ble_eq_true rfl⟩ ⟨show kc + 5 ≤ 601024 by omega, show ks + 30 ≤ 7293034 by omega⟩ (fun z hz => ?_)
  have hDz : LD mo (s_Z h2 z) := hD2.Z hz
  show AL b L xs nm l g sz (kc + rmL_lesson.cells) (ks + rmL_lesson.slots) (LW g mo (s_Z h2 z) S o2) 1324 _ _
  refine ag_istore _ dL_law_1324 (show 5 < 7 by decide) rfl ?_
  refine ag_aload_n 3 dL_law_1326 rfl ?_
  refine al_rd (j := 1) 5 1 (by omega) hL hb rfl rfl dL_law_1327 dL_law_1328 dL_law_1330 (by decide) dL_law_1331 dL_law_1332 ?_
  refine al_rd (j := 2) 5 1 (by omega) hL hb rfl rfl dL_law_1333 dL_law_1334 dL_law_1336 (by decide) dL_law_1337 dL_law_1338 ?_
  refine ag_callV 7 (some mo) [.int (xs (i + 1)), .int (xs (i + 2))] 2 rfl (LW_mo hDz) rfl rfl (ct9 (g := g) (o := o2) hDz (ctX9_lesson (sz := t_sz (s_Z h2 z)) hl S (xs (i + 1)) (xs (i + 2)) h9)) ⟨wl5 (i := 238) rfl rfl, (ciX9_lesson).1, (ciX9_lesson).2.1, (ciX9_lesson).2.2⟩ (wl5 (i := 239) rfl rfl) (wl6 (i := 0) rfl rfl) dL_law_1339 rfl rfl (by simp [cat_q, cat_i, cat_l, cat_r]) ⟨Nat.le_of_ble_eq_true rfl, Nat.le_of_ble_eq_true rfl⟩ ⟨show kc + 5 + 0 ≤ 601024 by omega, show ks + 30 + 0 ≤ 7293034 by omega⟩ (fun _ => ?_)
  refine ag_istore _ dL_law_1342 (show 6 < 7 by decide) rfl ?_
  refine ag_aload_n 4 dL_law_1344 rfl ?_
  refine ag_callV 7 (some mo) [] 0 rfl (LW_mo hDz) rfl rfl (ct9t (g := g) (o := o2) hDz (ctX9_thrown (sz := t_sz (s_Z h2 z)) hl S2 (thr47 h47))) ⟨wl5 (i := 5) rfl rfl, ciX9_thrown.1, ciX9_thrown.2.1, ciX9_thrown.2.2⟩ (wl5 (i := 6) rfl rfl) (wl5 (i := 7) rfl rfl) dL_law_1345 rfl rfl (by simp [cat_q, cat_i, cat_l, cat_r]) ⟨Nat.le_of_ble_eq_true rfl, Nat.le_of_ble_eq_true rfl⟩ ⟨show kc + 5 + 0 + 0 ≤ 601024 by omega, show ks + 30 + 0 + 0 ≤ 7293034 by omega⟩ (fun _ => ?_)
  refine ag_iload 1 dL_law_1348 rfl ?_
  refine ag_icmp_eq 1355 dL_law_1350 (by decide) (fun _ => ?_) (fun c => absurd rfl c)
  refine ag_iload 1 dL_law_1355 rfl ?_
  refine ag_if_ne 1372 dL_law_1357 (by decide) (fun _ => ?_) (fun h0 => ?_)
  · refine ag_goto 1647 dL_law_1372 (by decide) ?_
    refine ag_lv [2, 3, 4, 5, 6] rfl ?_
    exact ag_widen (kc + 200) (ks + 1000) (show kc + 5 + 0 + 0 ≤ kc + 200 by omega) (show ks + 30 + 0 + 0 ≤ ks + 1000 by omega) (K z hz)
  · refine ag_aload_n 3 dL_law_1360 rfl ?_
    refine ag_iconst (0 : Int32) dL_law_1361 (by decide) ?_
    refine ag_lald (LW_out hDz) vin0 dL_law_1362 ?_
    refine ag_iload 0 dL_law_1363 rfl ?_
    refine ag_i2l dL_law_1365 ?_
    refine ag_lcmp_eq 1372 dL_law_1366 dL_law_1367 (by decide) (fun _ => ?_) (fun c => absurd (hout h0) c)
    refine ag_goto 1647 dL_law_1372 (by decide) ?_
    refine ag_lv [2, 3, 4, 5, 6] rfl ?_
    exact ag_widen (kc + 200) (ks + 1000) (show kc + 5 + 0 + 0 ≤ kc + 200 by omega) (show ks + 30 + 0 + 0 ≤ ks + 1000 by omega) (K z hz)
set_option maxHeartbeats 4000000 in
set_option maxRecDepth 100000 in
theorem lc_branch {b L : Nat} {xs : Nat → Int32} {nm : String} {l : Launch} {g : xG} {sz kc ks : Nat} (hl : l.stackTraces = false) {mo t i : Nat} {h h2 : TH} {S S2 : MS} {o o2 : Nat → Int64} {kv : Int32} {r9 : Int32} (hL : L ≤ 3072) (hb : b < sz) (hi : i + 6 ≤ L) (hD2 : LD mo h2) (hr : kc + 200 ≤ 601024 ∧ ks + 1000 ≤ 7293034)
    (hW : WT yL_branch ML_branch hhL_branch rmL_branch l g [va_rf (some t), .int (xs (i + 1)), .int (xs (i + 2)), .ref (mo + 39)] (LW g mo h S o) kv (LW g mo h2 S o2)) (h9 : fX9_branch S (xs (i + 1)) (xs (i + 2)) = some (r9, S2)) (h47 : m_i S2 47 = kv) (hout : kv = 0 → o2 0 = r9.toInt64)
    (K : ∀ z, t_sz h2 ≤ z → AL b L xs nm l g sz (kc + 200) (ks + 1000) (LW g mo (s_Z h2 z) S2 o2) 1647 (lvL t mo b (nI i)) []) : AL b L xs nm l g sz kc ks (LW g mo h S o) 1375 (lvL t mo b (nI i)) [] := by
  refine ag_qload_n 3 dL_law_1375 rfl ?_
  refine al_rd (j := 1) 4 0 (by omega) hL hb rfl rfl dL_law_1376 dL_law_1377 dL_law_1379 (by decide) dL_law_1380 dL_law_1381 ?_
  refine al_rd (j := 2) 4 0 (by omega) hL hb rfl rfl dL_law_1382 dL_law_1383 dL_law_1385 (by decide) dL_law_1386 dL_law_1387 ?_
  refine ag_aload_n 1 dL_law_1388 rfl ?_
  refine agl_call (fun s args c h => h.2.2) [va_rf (some t), .int (xs (i + 1)), .int (xs (i + 2)), .ref (mo + 39)] 4 hW ⟨wl3 (i := 237) rfl rfl, (ciL_branch).1, (ciL_branch).2.1, (ciL_branch).2.2⟩ (wl3 (i := 238) rfl rfl) dL_law_1389 rfl rfl (by simp [cat_q, cat_i, cat_l, cat_r]) ⟨Nat.le_of_ble_eq_true rfl, Nat.le_of_ble_eq_true rfl⟩ ⟨show kc + 6 ≤ 601024 by omega, show ks + 36 ≤ 7293034 by omega⟩ (fun z hz => ?_)
  have hDz : LD mo (s_Z h2 z) := hD2.Z hz
  show AL b L xs nm l g sz (kc + rmL_branch.cells) (ks + rmL_branch.slots) (LW g mo (s_Z h2 z) S o2) 1392 _ _
  refine ag_istore _ dL_law_1392 (show 5 < 7 by decide) rfl ?_
  refine ag_aload_n 3 dL_law_1394 rfl ?_
  refine al_rd (j := 1) 5 1 (by omega) hL hb rfl rfl dL_law_1395 dL_law_1396 dL_law_1398 (by decide) dL_law_1399 dL_law_1400 ?_
  refine al_rd (j := 2) 5 1 (by omega) hL hb rfl rfl dL_law_1401 dL_law_1402 dL_law_1404 (by decide) dL_law_1405 dL_law_1406 ?_
  refine ag_callV 7 (some mo) [.int (xs (i + 1)), .int (xs (i + 2))] 2 rfl (LW_mo hDz) rfl rfl (ct9 (g := g) (o := o2) hDz (ctX9_branch (sz := t_sz (s_Z h2 z)) hl S (xs (i + 1)) (xs (i + 2)) h9)) ⟨wl6 (i := 10) rfl rfl, (ciX9_branch).1, (ciX9_branch).2.1, (ciX9_branch).2.2⟩ (wl6 (i := 11) rfl rfl) (wl6 (i := 12) rfl rfl) dL_law_1407 rfl rfl (by simp [cat_q, cat_i, cat_l, cat_r]) ⟨Nat.le_of_ble_eq_true rfl, Nat.le_of_ble_eq_true rfl⟩ ⟨show kc + 6 + 0 ≤ 601024 by omega, show ks + 36 + 0 ≤ 7293034 by omega⟩ (fun _ => ?_)
  refine ag_istore _ dL_law_1410 (show 6 < 7 by decide) rfl ?_
  refine ag_aload_n 4 dL_law_1412 rfl ?_
  refine ag_callV 7 (some mo) [] 0 rfl (LW_mo hDz) rfl rfl (ct9t (g := g) (o := o2) hDz (ctX9_thrown (sz := t_sz (s_Z h2 z)) hl S2 (thr47 h47))) ⟨wl5 (i := 5) rfl rfl, ciX9_thrown.1, ciX9_thrown.2.1, ciX9_thrown.2.2⟩ (wl5 (i := 6) rfl rfl) (wl5 (i := 7) rfl rfl) dL_law_1413 rfl rfl (by simp [cat_q, cat_i, cat_l, cat_r]) ⟨Nat.le_of_ble_eq_true rfl, Nat.le_of_ble_eq_true rfl⟩ ⟨show kc + 6 + 0 + 0 ≤ 601024 by omega, show ks + 36 + 0 + 0 ≤ 7293034 by omega⟩ (fun _ => ?_)
  refine ag_iload 1 dL_law_1416 rfl ?_
  refine ag_icmp_eq 1423 dL_law_1418 (by decide) (fun _ => ?_) (fun c => absurd rfl c)
  refine ag_iload 1 dL_law_1423 rfl ?_
  refine ag_if_ne 1440 dL_law_1425 (by decide) (fun _ => ?_) (fun h0 => ?_)
  · refine ag_goto 1647 dL_law_1440 (by decide) ?_
    refine ag_lv [2, 3, 4, 5, 6] rfl ?_
    exact ag_widen (kc + 200) (ks + 1000) (show kc + 6 + 0 + 0 ≤ kc + 200 by omega) (show ks + 36 + 0 + 0 ≤ ks + 1000 by omega) (K z hz)
  · refine ag_aload_n 3 dL_law_1428 rfl ?_
    refine ag_iconst (0 : Int32) dL_law_1429 (by decide) ?_
    refine ag_lald (LW_out hDz) vin0 dL_law_1430 ?_
    refine ag_iload 0 dL_law_1431 rfl ?_
    refine ag_i2l dL_law_1433 ?_
    refine ag_lcmp_eq 1440 dL_law_1434 dL_law_1435 (by decide) (fun _ => ?_) (fun c => absurd (hout h0) c)
    refine ag_goto 1647 dL_law_1440 (by decide) ?_
    refine ag_lv [2, 3, 4, 5, 6] rfl ?_
    exact ag_widen (kc + 200) (ks + 1000) (show kc + 6 + 0 + 0 ≤ kc + 200 by omega) (show ks + 36 + 0 + 0 ≤ ks + 1000 by omega) (K z hz)
set_option maxHeartbeats 4000000 in
set_option maxRecDepth 100000 in
theorem lc_mark {b L : Nat} {xs : Nat → Int32} {nm : String} {l : Launch} {g : xG} {sz kc ks : Nat} (hl : l.stackTraces = false) {mo t i : Nat} {h h2 : TH} {S S2 : MS} {o o2 : Nat → Int64} {kv : Int32} {r9 : Int32} (hL : L ≤ 3072) (hb : b < sz) (hi : i + 6 ≤ L) (hD2 : LD mo h2) (hr : kc + 200 ≤ 601024 ∧ ks + 1000 ≤ 7293034)
    (hW : WT yL_mark ML_mark hhL_mark rmL_mark l g [va_rf (some t), .int (xs (i + 1)), .int (xs (i + 2)), .int (xs (i + 3)), .ref (mo + 39)] (LW g mo h S o) kv (LW g mo h2 S o2)) (h9 : fX9_mark S (xs (i + 1)) (xs (i + 2)) (xs (i + 3)) = some (r9, S2)) (h47 : m_i S2 47 = kv) (hout : kv = 0 → o2 0 = r9.toInt64)
    (K : ∀ z, t_sz h2 ≤ z → AL b L xs nm l g sz (kc + 200) (ks + 1000) (LW g mo (s_Z h2 z) S2 o2) 1647 (lvL t mo b (nI i)) []) : AL b L xs nm l g sz kc ks (LW g mo h S o) 1443 (lvL t mo b (nI i)) [] := by
  refine ag_qload_n 3 dL_law_1443 rfl ?_
  refine al_rd (j := 1) 4 0 (by omega) hL hb rfl rfl dL_law_1444 dL_law_1445 dL_law_1447 (by decide) dL_law_1448 dL_law_1449 ?_
  refine al_rd (j := 2) 4 0 (by omega) hL hb rfl rfl dL_law_1450 dL_law_1451 dL_law_1453 (by decide) dL_law_1454 dL_law_1455 ?_
  refine al_rd (j := 3) 4 0 (by omega) hL hb rfl rfl dL_law_1456 dL_law_1457 dL_law_1459 (by decide) dL_law_1460 dL_law_1461 ?_
  refine ag_aload_n 1 dL_law_1462 rfl ?_
  refine agl_call (fun s args c h => h.2.2) [va_rf (some t), .int (xs (i + 1)), .int (xs (i + 2)), .int (xs (i + 3)), .ref (mo + 39)] 5 hW ⟨wl4 (i := 28) rfl rfl, (ciL_mark).1, (ciL_mark).2.1, (ciL_mark).2.2⟩ (wl4 (i := 29) rfl rfl) dL_law_1463 rfl rfl (by simp [cat_q, cat_i, cat_l, cat_r]) ⟨Nat.le_of_ble_eq_true rfl, Nat.le_of_ble_eq_true rfl⟩ ⟨show kc + 2 ≤ 601024 by omega, show ks + 12 ≤ 7293034 by omega⟩ (fun z hz => ?_)
  have hDz : LD mo (s_Z h2 z) := hD2.Z hz
  show AL b L xs nm l g sz (kc + rmL_mark.cells) (ks + rmL_mark.slots) (LW g mo (s_Z h2 z) S o2) 1466 _ _
  refine ag_istore _ dL_law_1466 (show 5 < 7 by decide) rfl ?_
  refine ag_aload_n 3 dL_law_1468 rfl ?_
  refine al_rd (j := 1) 5 1 (by omega) hL hb rfl rfl dL_law_1469 dL_law_1470 dL_law_1472 (by decide) dL_law_1473 dL_law_1474 ?_
  refine al_rd (j := 2) 5 1 (by omega) hL hb rfl rfl dL_law_1475 dL_law_1476 dL_law_1478 (by decide) dL_law_1479 dL_law_1480 ?_
  refine al_rd (j := 3) 5 1 (by omega) hL hb rfl rfl dL_law_1481 dL_law_1482 dL_law_1484 (by decide) dL_law_1485 dL_law_1486 ?_
  refine ag_callV 7 (some mo) [.int (xs (i + 1)), .int (xs (i + 2)), .int (xs (i + 3))] 3 rfl (LW_mo hDz) rfl rfl (ct9 (g := g) (o := o2) hDz (ctX9_mark (sz := t_sz (s_Z h2 z)) hl S (xs (i + 1)) (xs (i + 2)) (xs (i + 3)) h9)) ⟨wl6 (i := 26) rfl rfl, (ciX9_mark).1, (ciX9_mark).2.1, (ciX9_mark).2.2⟩ (wl6 (i := 27) rfl rfl) (wl6 (i := 28) rfl rfl) dL_law_1487 rfl rfl (by simp [cat_q, cat_i, cat_l, cat_r]) ⟨Nat.le_of_ble_eq_true rfl, Nat.le_of_ble_eq_true rfl⟩ ⟨show kc + 2 + 0 ≤ 601024 by omega, show ks + 12 + 0 ≤ 7293034 by omega⟩ (fun _ => ?_)
  refine ag_istore _ dL_law_1490 (show 6 < 7 by decide) rfl ?_
  refine ag_aload_n 4 dL_law_1492 rfl ?_
  refine ag_callV 7 (some mo) [] 0 rfl (LW_mo hDz) rfl rfl (ct9t (g := g) (o := o2) hDz (ctX9_thrown (sz := t_sz (s_Z h2 z)) hl S2 (thr47 h47))) ⟨wl5 (i := 5) rfl rfl, ciX9_thrown.1, ciX9_thrown.2.1, ciX9_thrown.2.2⟩ (wl5 (i := 6) rfl rfl) (wl5 (i := 7) rfl rfl) dL_law_1493 rfl rfl (by simp [cat_q, cat_i, cat_l, cat_r]) ⟨Nat.le_of_ble_eq_true rfl, Nat.le_of_ble_eq_true rfl⟩ ⟨show kc + 2 + 0 + 0 ≤ 601024 by omega, show ks + 12 + 0 + 0 ≤ 7293034 by omega⟩ (fun _ => ?_)
  refine ag_iload 1 dL_law_1496 rfl ?_
  refine ag_icmp_eq 1503 dL_law_1498 (by decide) (fun _ => ?_) (fun c => absurd rfl c)
  refine ag_iload 1 dL_law_1503 rfl ?_
  refine ag_if_ne 1520 dL_law_1505 (by decide) (fun _ => ?_) (fun h0 => ?_)
  · refine ag_goto 1647 dL_law_1520 (by decide) ?_
    refine ag_lv [2, 3, 4, 5, 6] rfl ?_
    exact ag_widen (kc + 200) (ks + 1000) (show kc + 2 + 0 + 0 ≤ kc + 200 by omega) (show ks + 12 + 0 + 0 ≤ ks + 1000 by omega) (K z hz)
  · refine ag_aload_n 3 dL_law_1508 rfl ?_
    refine ag_iconst (0 : Int32) dL_law_1509 (by decide) ?_
    refine ag_lald (LW_out hDz) vin0 dL_law_1510 ?_
    refine ag_iload 0 dL_law_1511 rfl ?_
    refine ag_i2l dL_law_1513 ?_
    refine ag_lcmp_eq 1520 dL_law_1514 dL_law_1515 (by decide) (fun _ => ?_) (fun c => absurd (hout h0) c)
    refine ag_goto 1647 dL_law_1520 (by decide) ?_
    refine ag_lv [2, 3, 4, 5, 6] rfl ?_
    exact ag_widen (kc + 200) (ks + 1000) (show kc + 2 + 0 + 0 ≤ kc + 200 by omega) (show ks + 12 + 0 + 0 ≤ ks + 1000 by omega) (K z hz)
set_option maxHeartbeats 4000000 in
set_option maxRecDepth 100000 in
theorem lc_node {b L : Nat} {xs : Nat → Int32} {nm : String} {l : Launch} {g : xG} {sz kc ks : Nat} (hl : l.stackTraces = false) {mo t i : Nat} {h h2 : TH} {S S2 : MS} {o o2 : Nat → Int64} {kv : Int32} {r9 : Int32} (hL : L ≤ 3072) (hb : b < sz) (hi : i + 6 ≤ L) (hD2 : LD mo h2) (hr : kc + 200 ≤ 601024 ∧ ks + 1000 ≤ 7293034)
    (hW : WT yL_node ML_node hhL_node rmL_node l g [va_rf (some t), .int (xs (i + 1)), .ref (mo + 39)] (LW g mo h S o) kv (LW g mo h2 S o2)) (h9 : fX9_node S (xs (i + 1)) = some (r9, S2)) (h47 : m_i S2 47 = kv) (hout : kv = 0 → o2 0 = r9.toInt64)
    (K : ∀ z, t_sz h2 ≤ z → AL b L xs nm l g sz (kc + 200) (ks + 1000) (LW g mo (s_Z h2 z) S2 o2) 1647 (lvL t mo b (nI i)) []) : AL b L xs nm l g sz kc ks (LW g mo h S o) 1523 (lvL t mo b (nI i)) [] := by
  refine ag_qload_n 3 dL_law_1523 rfl ?_
  refine al_rd (j := 1) 4 0 (by omega) hL hb rfl rfl dL_law_1524 dL_law_1525 dL_law_1527 (by decide) dL_law_1528 dL_law_1529 ?_
  refine ag_aload_n 1 dL_law_1530 rfl ?_
  refine agl_call (fun s args c h => h.2.2) [va_rf (some t), .int (xs (i + 1)), .ref (mo + 39)] 3 hW ⟨wl4 (i := 40) rfl rfl, (ciL_node).1, (ciL_node).2.1, (ciL_node).2.2⟩ (wl4 (i := 41) rfl rfl) dL_law_1531 rfl rfl (by simp [cat_q, cat_i, cat_l, cat_r]) ⟨Nat.le_of_ble_eq_true rfl, Nat.le_of_ble_eq_true rfl⟩ ⟨show kc + 1 ≤ 601024 by omega, show ks + 6 ≤ 7293034 by omega⟩ (fun z hz => ?_)
  have hDz : LD mo (s_Z h2 z) := hD2.Z hz
  show AL b L xs nm l g sz (kc + rmL_node.cells) (ks + rmL_node.slots) (LW g mo (s_Z h2 z) S o2) 1534 _ _
  refine ag_istore _ dL_law_1534 (show 5 < 7 by decide) rfl ?_
  refine ag_aload_n 3 dL_law_1536 rfl ?_
  refine al_rd (j := 1) 5 1 (by omega) hL hb rfl rfl dL_law_1537 dL_law_1538 dL_law_1540 (by decide) dL_law_1541 dL_law_1542 ?_
  refine ag_callV 7 (some mo) [.int (xs (i + 1))] 1 rfl (LW_mo hDz) rfl rfl (ct9 (g := g) (o := o2) hDz (ctX9_node (sz := t_sz (s_Z h2 z)) hl S (xs (i + 1)) h9)) ⟨wl6 (i := 30) rfl rfl, (ciX9_node).1, (ciX9_node).2.1, (ciX9_node).2.2⟩ (wl6 (i := 31) rfl rfl) (wl6 (i := 32) rfl rfl) dL_law_1543 rfl rfl (by simp [cat_q, cat_i, cat_l, cat_r]) ⟨Nat.le_of_ble_eq_true rfl, Nat.le_of_ble_eq_true rfl⟩ ⟨show kc + 1 + 0 ≤ 601024 by omega, show ks + 6 + 0 ≤ 7293034 by omega⟩ (fun _ => ?_)
  refine ag_istore _ dL_law_1546 (show 6 < 7 by decide) rfl ?_
  refine ag_aload_n 4 dL_law_1548 rfl ?_
  refine ag_callV 7 (some mo) [] 0 rfl (LW_mo hDz) rfl rfl (ct9t (g := g) (o := o2) hDz (ctX9_thrown (sz := t_sz (s_Z h2 z)) hl S2 (thr47 h47))) ⟨wl5 (i := 5) rfl rfl, ciX9_thrown.1, ciX9_thrown.2.1, ciX9_thrown.2.2⟩ (wl5 (i := 6) rfl rfl) (wl5 (i := 7) rfl rfl) dL_law_1549 rfl rfl (by simp [cat_q, cat_i, cat_l, cat_r]) ⟨Nat.le_of_ble_eq_true rfl, Nat.le_of_ble_eq_true rfl⟩ ⟨show kc + 1 + 0 + 0 ≤ 601024 by omega, show ks + 6 + 0 + 0 ≤ 7293034 by omega⟩ (fun _ => ?_)
  refine ag_iload 1 dL_law_1552 rfl ?_
  refine ag_icmp_eq 1559 dL_law_1554 (by decide) (fun _ => ?_) (fun c => absurd rfl c)
  refine ag_iload 1 dL_law_1559 rfl ?_
  refine ag_if_ne 1576 dL_law_1561 (by decide) (fun _ => ?_) (fun h0 => ?_)
  · refine ag_goto 1647 dL_law_1576 (by decide) ?_
    refine ag_lv [2, 3, 4, 5, 6] rfl ?_
    exact ag_widen (kc + 200) (ks + 1000) (show kc + 1 + 0 + 0 ≤ kc + 200 by omega) (show ks + 6 + 0 + 0 ≤ ks + 1000 by omega) (K z hz)
  · refine ag_aload_n 3 dL_law_1564 rfl ?_
    refine ag_iconst (0 : Int32) dL_law_1565 (by decide) ?_
    refine ag_lald (LW_out hDz) vin0 dL_law_1566 ?_
    refine ag_iload 0 dL_law_1567 rfl ?_
    refine ag_i2l dL_law_1569 ?_
    refine ag_lcmp_eq 1576 dL_law_1570 dL_law_1571 (by decide) (fun _ => ?_) (fun c => absurd (hout h0) c)
    refine ag_goto 1647 dL_law_1576 (by decide) ?_
    refine ag_lv [2, 3, 4, 5, 6] rfl ?_
    exact ag_widen (kc + 200) (ks + 1000) (show kc + 1 + 0 + 0 ≤ kc + 200 by omega) (show ks + 6 + 0 + 0 ≤ ks + 1000 by omega) (K z hz)
set_option maxHeartbeats 4000000 in
set_option maxRecDepth 100000 in
theorem lc_merge {b L : Nat} {xs : Nat → Int32} {nm : String} {l : Launch} {g : xG} {sz kc ks : Nat} (hl : l.stackTraces = false) {mo t i : Nat} {h h2 : TH} {S S2 : MS} {o o2 : Nat → Int64} {kv : Int32} {r9 : Int32} (hL : L ≤ 3072) (hb : b < sz) (hi : i + 6 ≤ L) (hD2 : LD mo h2) (hr : kc + 200 ≤ 601024 ∧ ks + 1000 ≤ 7293034)
    (hW : WT yL_merge ML_merge hhL_merge rmL_merge l g [va_rf (some t), .int (xs (i + 1)), .int (xs (i + 2)), .ref (mo + 39)] (LW g mo h S o) kv (LW g mo h2 S o2)) (h9 : fX9_merge S (xs (i + 1)) (xs (i + 2)) = some (r9, S2)) (h47 : m_i S2 47 = kv) (hout : kv = 0 → o2 0 = r9.toInt64)
    (K : ∀ z, t_sz h2 ≤ z → AL b L xs nm l g sz (kc + 200) (ks + 1000) (LW g mo (s_Z h2 z) S2 o2) 1647 (lvL t mo b (nI i)) []) : AL b L xs nm l g sz kc ks (LW g mo h S o) 1579 (lvL t mo b (nI i)) [] := by
  refine ag_qload_n 3 dL_law_1579 rfl ?_
  refine al_rd (j := 1) 4 0 (by omega) hL hb rfl rfl dL_law_1580 dL_law_1581 dL_law_1583 (by decide) dL_law_1584 dL_law_1585 ?_
  refine al_rd (j := 2) 4 0 (by omega) hL hb rfl rfl dL_law_1586 dL_law_1587 dL_law_1589 (by decide) dL_law_1590 dL_law_1591 ?_
  refine ag_aload_n 1 dL_law_1592 rfl ?_
  refine agl_call (fun s args c h => h.2.2) [va_rf (some t), .int (xs (i + 1)), .int (xs (i + 2)), .ref (mo + 39)] 4 hW ⟨wl4 (i := 55) rfl rfl, (ciL_merge).1, (ciL_merge).2.1, (ciL_merge).2.2⟩ (wl4 (i := 56) rfl rfl) dL_law_1593 rfl rfl (by simp [cat_q, cat_i, cat_l, cat_r]) ⟨Nat.le_of_ble_eq_true rfl, Nat.le_of_ble_eq_true rfl⟩ ⟨show kc + 125 ≤ 601024 by omega, show ks + 750 ≤ 7293034 by omega⟩ (fun z hz => ?_)
  have hDz : LD mo (s_Z h2 z) := hD2.Z hz
  show AL b L xs nm l g sz (kc + rmL_merge.cells) (ks + rmL_merge.slots) (LW g mo (s_Z h2 z) S o2) 1596 _ _
  refine ag_istore _ dL_law_1596 (show 5 < 7 by decide) rfl ?_
  refine ag_aload_n 3 dL_law_1598 rfl ?_
  refine al_rd (j := 1) 5 1 (by omega) hL hb rfl rfl dL_law_1599 dL_law_1600 dL_law_1602 (by decide) dL_law_1603 dL_law_1604 ?_
  refine al_rd (j := 2) 5 1 (by omega) hL hb rfl rfl dL_law_1605 dL_law_1606 dL_law_1608 (by decide) dL_law_1609 dL_law_1610 ?_
  refine ag_callV 7 (some mo) [.int (xs (i + 1)), .int (xs (i + 2))] 2 rfl (LW_mo hDz) rfl rfl (ct9 (g := g) (o := o2) hDz (ctX9_merge (sz := t_sz (s_Z h2 z)) hl S (xs (i + 1)) (xs (i + 2)) h9)) ⟨wl6 (i := 34) rfl rfl, (ciX9_merge).1, (ciX9_merge).2.1, (ciX9_merge).2.2⟩ (wl6 (i := 35) rfl rfl) (wl6 (i := 36) rfl rfl) dL_law_1611 rfl rfl (by simp [cat_q, cat_i, cat_l, cat_r]) ⟨Nat.le_of_ble_eq_true rfl, Nat.le_of_ble_eq_true rfl⟩ ⟨show kc + 125 + 0 ≤ 601024 by omega, show ks + 750 + 0 ≤ 7293034 by omega⟩ (fun _ => ?_)
  refine ag_istore _ dL_law_1614 (show 6 < 7 by decide) rfl ?_
  refine ag_aload_n 4 dL_law_1616 rfl ?_
  refine ag_callV 7 (some mo) [] 0 rfl (LW_mo hDz) rfl rfl (ct9t (g := g) (o := o2) hDz (ctX9_thrown (sz := t_sz (s_Z h2 z)) hl S2 (thr47 h47))) ⟨wl5 (i := 5) rfl rfl, ciX9_thrown.1, ciX9_thrown.2.1, ciX9_thrown.2.2⟩ (wl5 (i := 6) rfl rfl) (wl5 (i := 7) rfl rfl) dL_law_1617 rfl rfl (by simp [cat_q, cat_i, cat_l, cat_r]) ⟨Nat.le_of_ble_eq_true rfl, Nat.le_of_ble_eq_true rfl⟩ ⟨show kc + 125 + 0 + 0 ≤ 601024 by omega, show ks + 750 + 0 + 0 ≤ 7293034 by omega⟩ (fun _ => ?_)
  refine ag_iload 1 dL_law_1620 rfl ?_
  refine ag_icmp_eq 1627 dL_law_1622 (by decide) (fun _ => ?_) (fun c => absurd rfl c)
  refine ag_iload 1 dL_law_1627 rfl ?_
  refine ag_if_ne 1644 dL_law_1629 (by decide) (fun _ => ?_) (fun h0 => ?_)
  · refine ag_goto 1647 dL_law_1644 (by decide) ?_
    refine ag_lv [2, 3, 4, 5, 6] rfl ?_
    exact ag_widen (kc + 200) (ks + 1000) (show kc + 125 + 0 + 0 ≤ kc + 200 by omega) (show ks + 750 + 0 + 0 ≤ ks + 1000 by omega) (K z hz)
  · refine ag_aload_n 3 dL_law_1632 rfl ?_
    refine ag_iconst (0 : Int32) dL_law_1633 (by decide) ?_
    refine ag_lald (LW_out hDz) vin0 dL_law_1634 ?_
    refine ag_iload 0 dL_law_1635 rfl ?_
    refine ag_i2l dL_law_1637 ?_
    refine ag_lcmp_eq 1644 dL_law_1638 dL_law_1639 (by decide) (fun _ => ?_) (fun c => absurd (hout h0) c)
    refine ag_goto 1647 dL_law_1644 (by decide) ?_
    refine ag_lv [2, 3, 4, 5, 6] rfl ?_
    exact ag_widen (kc + 200) (ks + 1000) (show kc + 125 + 0 + 0 ≤ kc + 200 by omega) (show ks + 750 + 0 + 0 ≤ ks + 1000 by omega) (K z hz)
theorem tn_liberties {b L : Nat} {xs : Nat → Int32} {nm : String} {l : Launch} {g : xG} {sz kc ks : Nat} (hl : l.stackTraces = false) {mo t i : Nat} {h : TH} {S : MS} {o : Nat → Int64} {k : Nat} (hL : L ≤ 3072) (hb : b < sz) (hi : i + 6 ≤ L) (hr : kc + 200 ≤ 601024 ∧ ks + 1000 ≤ 7293034) (hk : k ≤ 4000) (hR : RR mo t k h S)
    (K : ∀ h2 S2 o2, RR mo t (k + 1) h2 S2 → AL b L xs nm l g sz (kc + 200) (ks + 1000) (LW g mo h2 S2 o2) 1647 (lvL t mo b (nI i)) []) : AL b L xs nm l g sz kc ks (LW g mo h S o) 872 (lvL t mo b (nI i)) [] := by
  have hA := call_liberties (by omega) hR (xs (i + 1)) (xs (i + 2))
  obtain ⟨h2, S2, hR2, hc⟩ := hA
  have hD := hR.ld
  have hD2 := hR2.ld
  have hk7 := hR.k7
  rcases hc with ⟨v, e8, e9, z47⟩ | ⟨j, E, bb, hE, hj, e8, e9, z47⟩
  · exact lc_liberties hl hL hb hi hD2 hr (wtL_liberties_0 hl t hk7 hD hD2 (xs (i + 1)) (xs (i + 2)) e8) e9 z47 (fun _ => by simp [vp_updL]) (fun z hz => K _ _ _ (hR2.Z hz))
  · have hj2 : j = 0 ∨ j = 1 ∨ j = 2 := by omega
    rcases hj2 with rfl | rfl | rfl
    · have hE2 : E = eI := (Option.some.inj hE).symm
      subst hE2
      exact lc_liberties hl hL hb hi hD2 hr (wtL_liberties_1 hl t hk7 hD hD2 (xs (i + 1)) (xs (i + 2)) e8) e9 (z47.trans (show nI (0 + 1) = (1 : Int32) by decide)) (fun h => absurd h (by decide)) (fun z hz => K _ _ _ (hR2.Z hz))
    · cases hE
    · cases hE
theorem tn_flooded {b L : Nat} {xs : Nat → Int32} {nm : String} {l : Launch} {g : xG} {sz kc ks : Nat} (hl : l.stackTraces = false) {mo t i : Nat} {h : TH} {S : MS} {o : Nat → Int64} {k : Nat} (hL : L ≤ 3072) (hb : b < sz) (hi : i + 6 ≤ L) (hr : kc + 200 ≤ 601024 ∧ ks + 1000 ≤ 7293034) (hk : k ≤ 4000) (hR : RR mo t k h S)
    (K : ∀ h2 S2 o2, RR mo t (k + 1) h2 S2 → AL b L xs nm l g sz (kc + 200) (ks + 1000) (LW g mo h2 S2 o2) 1647 (lvL t mo b (nI i)) []) : AL b L xs nm l g sz kc ks (LW g mo h S o) 940 (lvL t mo b (nI i)) [] := by
  have hA := call_flooded (by omega) hR (xs (i + 1)) (xs (i + 2))
  obtain ⟨h2, S2, hR2, hc⟩ := hA
  have hD := hR.ld
  have hD2 := hR2.ld
  have hk7 := hR.k7
  rcases hc with ⟨v, e8, e9, z47⟩ | ⟨j, E, bb, hE, hj, e8, e9, z47⟩
  · exact lc_flooded hl hL hb hi hD2 hr (wtL_flooded_0 hl t hk7 hD hD2 (xs (i + 1)) (xs (i + 2)) e8) e9 z47 (fun _ => by simp [vp_updL]) (fun z hz => K _ _ _ (hR2.Z hz))
  · have hj2 : j = 0 ∨ j = 1 ∨ j = 2 := by omega
    rcases hj2 with rfl | rfl | rfl
    · have hE2 : E = eI := (Option.some.inj hE).symm
      subst hE2
      exact lc_flooded hl hL hb hi hD2 hr (wtL_flooded_1 hl t hk7 hD hD2 (xs (i + 1)) (xs (i + 2)) e8) e9 (z47.trans (show nI (0 + 1) = (1 : Int32) by decide)) (fun h => absurd h (by decide)) (fun z hz => K _ _ _ (hR2.Z hz))
    · cases hE
    · cases hE
theorem tn_judge {b L : Nat} {xs : Nat → Int32} {nm : String} {l : Launch} {g : xG} {sz kc ks : Nat} (hl : l.stackTraces = false) {mo t i : Nat} {h : TH} {S : MS} {o : Nat → Int64} {k : Nat} (hL : L ≤ 3072) (hb : b < sz) (hi : i + 6 ≤ L) (hr : kc + 200 ≤ 601024 ∧ ks + 1000 ≤ 7293034) (hk : k ≤ 4000) (hR : RR mo t k h S)
    (K : ∀ h2 S2 o2, RR mo t (k + 1) h2 S2 → AL b L xs nm l g sz (kc + 200) (ks + 1000) (LW g mo h2 S2 o2) 1647 (lvL t mo b (nI i)) []) : AL b L xs nm l g sz kc ks (LW g mo h S o) 1008 (lvL t mo b (nI i)) [] := by
  have hA := call_judge hR (xs (i + 1))
  obtain ⟨h2, S2, hR2, hc⟩ := hA
  have hD := hR.ld
  have hD2 := hR2.ld
  have hk7 := hR.k7
  rcases hc with ⟨v, e8, e9, z47⟩ | ⟨j, E, bb, hE, hj, e8, e9, z47⟩
  · exact lc_judge hl hL hb hi hD2 hr (wtL_judge_0 hl t hk7 hD hD2 (xs (i + 1)) e8) e9 z47 (fun _ => by simp [vp_updL]) (fun z hz => K _ _ _ (hR2.Z hz))
  · have hj2 : j = 0 ∨ j = 1 ∨ j = 2 := by omega
    rcases hj2 with rfl | rfl | rfl
    · have hE2 : E = eI := (Option.some.inj hE).symm
      subst hE2
      exact lc_judge hl hL hb hi hD2 hr (wtL_judge_1 hl t hk7 hD hD2 (xs (i + 1)) e8) e9 (z47.trans (show nI (0 + 1) = (1 : Int32) by decide)) (fun h => absurd h (by decide)) (fun z hz => K _ _ _ (hR2.Z hz))
    · have hE2 : E = eS := (Option.some.inj hE).symm
      subst hE2
      exact lc_judge hl hL hb hi hD2 hr (wtL_judge_2 hl t hk7 hD hD2 (xs (i + 1)) e8) e9 (z47.trans (show nI (1 + 1) = (2 : Int32) by decide)) (fun h => absurd h (by decide)) (fun z hz => K _ _ _ (hR2.Z hz))
    · cases hE
theorem tn_due {b L : Nat} {xs : Nat → Int32} {nm : String} {l : Launch} {g : xG} {sz kc ks : Nat} (hl : l.stackTraces = false) {mo t i : Nat} {h : TH} {S : MS} {o : Nat → Int64} {k : Nat} (hL : L ≤ 3072) (hb : b < sz) (hi : i + 6 ≤ L) (hr : kc + 200 ≤ 601024 ∧ ks + 1000 ≤ 7293034) (hk : k ≤ 4000) (hR : RR mo t k h S)
    (K : ∀ h2 S2 o2, RR mo t (k + 1) h2 S2 → AL b L xs nm l g sz (kc + 200) (ks + 1000) (LW g mo h2 S2 o2) 1647 (lvL t mo b (nI i)) []) : AL b L xs nm l g sz kc ks (LW g mo h S o) 1064 (lvL t mo b (nI i)) [] := by
  have hA := call_due hR (xs (i + 1))
  obtain ⟨h2, S2, hR2, hc⟩ := hA
  have hD := hR.ld
  have hD2 := hR2.ld
  have hk7 := hR.k7
  rcases hc with ⟨v, e8, e9, z47⟩ | ⟨j, E, bb, hE, hj, e8, e9, z47⟩
  · exact lc_due hl hL hb hi hD2 hr (wtL_due_0 hl t hk7 hD hD2 (xs (i + 1)) e8) e9 z47 (fun _ => by simp [vp_updL]) (fun z hz => K _ _ _ (hR2.Z hz))
  · have hj2 : j = 0 ∨ j = 1 ∨ j = 2 := by omega
    rcases hj2 with rfl | rfl | rfl
    · have hE2 : E = eI := (Option.some.inj hE).symm
      subst hE2
      exact lc_due hl hL hb hi hD2 hr (wtL_due_1 hl t hk7 hD hD2 (xs (i + 1)) e8) e9 (z47.trans (show nI (0 + 1) = (1 : Int32) by decide)) (fun h => absurd h (by decide)) (fun z hz => K _ _ _ (hR2.Z hz))
    · cases hE
    · cases hE
set_option maxHeartbeats 4000000 in
set_option maxRecDepth 100000 in
theorem tn_settle {b L : Nat} {xs : Nat → Int32} {nm : String} {l : Launch} {g : xG} {sz kc ks : Nat} (hl : l.stackTraces = false) {mo t i : Nat} {h : TH} {S : MS} {o : Nat → Int64} {k : Nat} (hL : L ≤ 3072) (hb : b < sz) (hi : i + 6 ≤ L) (hr : kc + 200 ≤ 601024 ∧ ks + 1000 ≤ 7293034) (hk : k ≤ 4000) (hR : RR mo t k h S)
    (K : ∀ h2 S2 o2, RR mo t (k + 1) h2 S2 → AL b L xs nm l g sz (kc + 200) (ks + 1000) (LW g mo h2 S2 o2) 1647 (lvL t mo b (nI i)) []) : AL b L xs nm l g sz kc ks (LW g mo h S o) 1120 (lvL t mo b (nI i)) [] := by
  obtain ⟨v, h2, S2, h8, h9, hR2, -⟩ := call_settle hR
  have hD := hR.ld
  have hD2 := hR2.ld
  have hk7 := hR.k7
  refine ag_qload_n 3 dL_law_1120 rfl ?_
  have hx : (LW g mo h S o).2 t = some (.inr (6, thF h t (tgs 6))) := xU_l (thC_ob (ci := 6) hk7 (by decide))
  have hct : CT yX8_settle MX8_settle rmX8_settle l g [va_rf (some t)] (LW g mo h S o) (.inl (some (.int v))) (LW g mo h2 S o) := (ctX8_settle (g := g) hl h t h8).frame (LD.dj (S := S) (o := o) hD)
  refine ag_callV 6 (some t) [] 0 rfl hx rfl rfl hct ⟨wl1 (i := 81) rfl rfl, ciX8_settle.1, ciX8_settle.2.1, ciX8_settle.2.2⟩ (wl1 (i := 82) rfl rfl) (wl1 (i := 83) rfl rfl) dL_law_1121 rfl rfl (by simp [cat_q, cat_i, cat_l, cat_r]) ⟨Nat.le_of_ble_eq_true rfl, Nat.le_of_ble_eq_true rfl⟩ ⟨show kc + 0 ≤ 601024 by omega, show ks + 0 ≤ 7293034 by omega⟩ (fun _ => ?_)
  refine ag_aload_n 2 dL_law_1124 rfl ?_
  refine ag_callV 7 (some mo) [] 0 rfl (LW_mo hD2) rfl rfl (ct9 (g := g) (o := o) hD2 (ctX9_settle (sz := t_sz h2) hl S h9)) ⟨wl5 (i := 199) rfl rfl, ciX9_settle.1, ciX9_settle.2.1, ciX9_settle.2.2⟩ (wl5 (i := 200) rfl rfl) (wl5 (i := 201) rfl rfl) dL_law_1125 rfl rfl (by simp [cat_q, cat_i, cat_l, cat_r]) ⟨Nat.le_of_ble_eq_true rfl, Nat.le_of_ble_eq_true rfl⟩ ⟨show kc + 0 + 0 ≤ 601024 by omega, show ks + 0 + 0 ≤ 7293034 by omega⟩ (fun _ => ?_)
  refine ag_icmp_eq 1647 dL_law_1128 (by decide) (fun _ => ?_) (fun c => absurd rfl c)
  exact ag_widen (kc + 200) (ks + 1000) (show kc + 0 + 0 ≤ kc + 200 by omega) (show ks + 0 + 0 ≤ ks + 1000 by omega) (K _ _ _ hR2)
theorem tn_ladder {b L : Nat} {xs : Nat → Int32} {nm : String} {l : Launch} {g : xG} {sz kc ks : Nat} (hl : l.stackTraces = false) {mo t i : Nat} {h : TH} {S : MS} {o : Nat → Int64} {k : Nat} (hL : L ≤ 3072) (hb : b < sz) (hi : i + 6 ≤ L) (hr : kc + 200 ≤ 601024 ∧ ks + 1000 ≤ 7293034) (hk : k ≤ 4000) (hR : RR mo t k h S)
    (K : ∀ h2 S2 o2, RR mo t (k + 1) h2 S2 → AL b L xs nm l g sz (kc + 200) (ks + 1000) (LW g mo h2 S2 o2) 1647 (lvL t mo b (nI i)) []) : AL b L xs nm l g sz kc ks (LW g mo h S o) 1133 (lvL t mo b (nI i)) [] := by
  have hA := call_ladder (by omega) hR (xs (i + 1)) (xs (i + 2)) (xs (i + 3))
  obtain ⟨h2, S2, hR2, hc⟩ := hA
  have hD := hR.ld
  have hD2 := hR2.ld
  have hk7 := hR.k7
  rcases hc with ⟨v, e8, e9, z47⟩ | ⟨j, E, bb, hE, hj, e8, e9, z47⟩
  · exact lc_ladder hl hL hb hi hD2 hr (wtL_ladder_0 hl t hk7 hD hD2 (xs (i + 1)) (xs (i + 2)) (xs (i + 3)) e8) e9 z47 (fun _ => by simp [vp_updL]) (fun z hz => K _ _ _ (hR2.Z hz))
  · have hj2 : j = 0 ∨ j = 1 ∨ j = 2 := by omega
    rcases hj2 with rfl | rfl | rfl
    · have hE2 : E = eI := (Option.some.inj hE).symm
      subst hE2
      exact lc_ladder hl hL hb hi hD2 hr (wtL_ladder_1 hl t hk7 hD hD2 (xs (i + 1)) (xs (i + 2)) (xs (i + 3)) e8) e9 (z47.trans (show nI (0 + 1) = (1 : Int32) by decide)) (fun h => absurd h (by decide)) (fun z hz => K _ _ _ (hR2.Z hz))
    · have hE2 : E = eA := (Option.some.inj hE).symm
      subst hE2
      exact lc_ladder hl hL hb hi hD2 hr (wtL_ladder_2 hl t hk7 hD hD2 (xs (i + 1)) (xs (i + 2)) (xs (i + 3)) e8) e9 (z47.trans (show nI (1 + 1) = (2 : Int32) by decide)) (fun h => absurd h (by decide)) (fun z hz => K _ _ _ (hR2.Z hz))
    · cases hE
theorem tn_net {b L : Nat} {xs : Nat → Int32} {nm : String} {l : Launch} {g : xG} {sz kc ks : Nat} (hl : l.stackTraces = false) {mo t i : Nat} {h : TH} {S : MS} {o : Nat → Int64} {k : Nat} (hL : L ≤ 3072) (hb : b < sz) (hi : i + 6 ≤ L) (hr : kc + 200 ≤ 601024 ∧ ks + 1000 ≤ 7293034) (hk : k ≤ 4000) (hR : RR mo t k h S)
    (K : ∀ h2 S2 o2, RR mo t (k + 1) h2 S2 → AL b L xs nm l g sz (kc + 200) (ks + 1000) (LW g mo h2 S2 o2) 1647 (lvL t mo b (nI i)) []) : AL b L xs nm l g sz kc ks (LW g mo h S o) 1220 (lvL t mo b (nI i)) [] := by
  have hA := call_net (by omega) hR (xs (i + 1)) (xs (i + 2)) (xs (i + 3))
  obtain ⟨h2, S2, hR2, hc⟩ := hA
  have hD := hR.ld
  have hD2 := hR2.ld
  have hk7 := hR.k7
  rcases hc with ⟨v, e8, e9, z47⟩ | ⟨j, E, bb, hE, hj, e8, e9, z47⟩
  · exact lc_net hl hL hb hi hD2 hr (wtL_net_0 hl t hk7 hD hD2 (xs (i + 1)) (xs (i + 2)) (xs (i + 3)) e8) e9 z47 (fun _ => by simp [vp_updL]) (fun z hz => K _ _ _ (hR2.Z hz))
  · have hj2 : j = 0 ∨ j = 1 ∨ j = 2 := by omega
    rcases hj2 with rfl | rfl | rfl
    · have hE2 : E = eI := (Option.some.inj hE).symm
      subst hE2
      exact lc_net hl hL hb hi hD2 hr (wtL_net_1 hl t hk7 hD hD2 (xs (i + 1)) (xs (i + 2)) (xs (i + 3)) e8) e9 (z47.trans (show nI (0 + 1) = (1 : Int32) by decide)) (fun h => absurd h (by decide)) (fun z hz => K _ _ _ (hR2.Z hz))
    · have hE2 : E = eA := (Option.some.inj hE).symm
      subst hE2
      exact lc_net hl hL hb hi hD2 hr (wtL_net_2 hl t hk7 hD hD2 (xs (i + 1)) (xs (i + 2)) (xs (i + 3)) e8) e9 (z47.trans (show nI (1 + 1) = (2 : Int32) by decide)) (fun h => absurd h (by decide)) (fun z hz => K _ _ _ (hR2.Z hz))
    · cases hE
theorem tn_lesson {b L : Nat} {xs : Nat → Int32} {nm : String} {l : Launch} {g : xG} {sz kc ks : Nat} (hl : l.stackTraces = false) {mo t i : Nat} {h : TH} {S : MS} {o : Nat → Int64} {k : Nat} (hL : L ≤ 3072) (hb : b < sz) (hi : i + 6 ≤ L) (hr : kc + 200 ≤ 601024 ∧ ks + 1000 ≤ 7293034) (hk : k ≤ 4000) (hR : RR mo t k h S)
    (K : ∀ h2 S2 o2, RR mo t (k + 1) h2 S2 → AL b L xs nm l g sz (kc + 200) (ks + 1000) (LW g mo h2 S2 o2) 1647 (lvL t mo b (nI i)) []) : AL b L xs nm l g sz kc ks (LW g mo h S o) 1307 (lvL t mo b (nI i)) [] := by
  have hA := call_lesson (by omega) hR (xs (i + 1)) (xs (i + 2))
  obtain ⟨h2, S2, hR2, hc⟩ := hA
  have hD := hR.ld
  have hD2 := hR2.ld
  have hk7 := hR.k7
  rcases hc with ⟨v, e8, e9, z47⟩ | ⟨j, E, bb, hE, hj, e8, e9, z47⟩
  · exact lc_lesson hl hL hb hi hD2 hr (wtL_lesson_0 hl t hk7 hD hD2 (xs (i + 1)) (xs (i + 2)) e8) e9 z47 (fun _ => by simp [vp_updL]) (fun z hz => K _ _ _ (hR2.Z hz))
  · have hj2 : j = 0 ∨ j = 1 ∨ j = 2 := by omega
    rcases hj2 with rfl | rfl | rfl
    · have hE2 : E = eI := (Option.some.inj hE).symm
      subst hE2
      exact lc_lesson hl hL hb hi hD2 hr (wtL_lesson_1 hl t hk7 hD hD2 (xs (i + 1)) (xs (i + 2)) e8) e9 (z47.trans (show nI (0 + 1) = (1 : Int32) by decide)) (fun h => absurd h (by decide)) (fun z hz => K _ _ _ (hR2.Z hz))
    · have hE2 : E = eA := (Option.some.inj hE).symm
      subst hE2
      exact lc_lesson hl hL hb hi hD2 hr (wtL_lesson_2 hl t hk7 hD hD2 (xs (i + 1)) (xs (i + 2)) e8) e9 (z47.trans (show nI (1 + 1) = (2 : Int32) by decide)) (fun h => absurd h (by decide)) (fun z hz => K _ _ _ (hR2.Z hz))
    · have hE2 : E = eS := (Option.some.inj hE).symm
      subst hE2
      exact lc_lesson hl hL hb hi hD2 hr (wtL_lesson_3 hl t hk7 hD hD2 (xs (i + 1)) (xs (i + 2)) e8) e9 (z47.trans (show nI (2 + 1) = (3 : Int32) by decide)) (fun h => absurd h (by decide)) (fun z hz => K _ _ _ (hR2.Z hz))
theorem tn_branch {b L : Nat} {xs : Nat → Int32} {nm : String} {l : Launch} {g : xG} {sz kc ks : Nat} (hl : l.stackTraces = false) {mo t i : Nat} {h : TH} {S : MS} {o : Nat → Int64} {k : Nat} (hL : L ≤ 3072) (hb : b < sz) (hi : i + 6 ≤ L) (hr : kc + 200 ≤ 601024 ∧ ks + 1000 ≤ 7293034) (hk : k ≤ 4000) (hR : RR mo t k h S)
    (K : ∀ h2 S2 o2, RR mo t (k + 1) h2 S2 → AL b L xs nm l g sz (kc + 200) (ks + 1000) (LW g mo h2 S2 o2) 1647 (lvL t mo b (nI i)) []) : AL b L xs nm l g sz kc ks (LW g mo h S o) 1375 (lvL t mo b (nI i)) [] := by
  have hA := call_branch (by omega) hR (xs (i + 1)) (xs (i + 2))
  obtain ⟨h2, S2, hR2, hc⟩ := hA
  have hD := hR.ld
  have hD2 := hR2.ld
  have hk7 := hR.k7
  rcases hc with ⟨v, e8, e9, z47⟩ | ⟨j, E, bb, hE, hj, e8, e9, z47⟩
  · exact lc_branch hl hL hb hi hD2 hr (wtL_branch_0 hl t hk7 hD hD2 (xs (i + 1)) (xs (i + 2)) e8) e9 z47 (fun _ => by simp [vp_updL]) (fun z hz => K _ _ _ (hR2.Z hz))
  · have hj2 : j = 0 ∨ j = 1 ∨ j = 2 := by omega
    rcases hj2 with rfl | rfl | rfl
    · have hE2 : E = eI := (Option.some.inj hE).symm
      subst hE2
      exact lc_branch hl hL hb hi hD2 hr (wtL_branch_1 hl t hk7 hD hD2 (xs (i + 1)) (xs (i + 2)) e8) e9 (z47.trans (show nI (0 + 1) = (1 : Int32) by decide)) (fun h => absurd h (by decide)) (fun z hz => K _ _ _ (hR2.Z hz))
    · have hE2 : E = eS := (Option.some.inj hE).symm
      subst hE2
      exact lc_branch hl hL hb hi hD2 hr (wtL_branch_2 hl t hk7 hD hD2 (xs (i + 1)) (xs (i + 2)) e8) e9 (z47.trans (show nI (1 + 1) = (2 : Int32) by decide)) (fun h => absurd h (by decide)) (fun z hz => K _ _ _ (hR2.Z hz))
    · cases hE
theorem tn_mark {b L : Nat} {xs : Nat → Int32} {nm : String} {l : Launch} {g : xG} {sz kc ks : Nat} (hl : l.stackTraces = false) {mo t i : Nat} {h : TH} {S : MS} {o : Nat → Int64} {k : Nat} (hL : L ≤ 3072) (hb : b < sz) (hi : i + 6 ≤ L) (hr : kc + 200 ≤ 601024 ∧ ks + 1000 ≤ 7293034) (hk : k ≤ 4000) (hR : RR mo t k h S)
    (K : ∀ h2 S2 o2, RR mo t (k + 1) h2 S2 → AL b L xs nm l g sz (kc + 200) (ks + 1000) (LW g mo h2 S2 o2) 1647 (lvL t mo b (nI i)) []) : AL b L xs nm l g sz kc ks (LW g mo h S o) 1443 (lvL t mo b (nI i)) [] := by
  have hA := call_mark hR (xs (i + 1)) (xs (i + 2)) (xs (i + 3))
  obtain ⟨h2, S2, hR2, hc⟩ := hA
  have hD := hR.ld
  have hD2 := hR2.ld
  have hk7 := hR.k7
  rcases hc with ⟨v, e8, e9, z47⟩ | ⟨j, E, bb, hE, hj, e8, e9, z47⟩
  · exact lc_mark hl hL hb hi hD2 hr (wtL_mark_0 hl t hk7 hD hD2 (xs (i + 1)) (xs (i + 2)) (xs (i + 3)) e8) e9 z47 (fun _ => by simp [vp_updL]) (fun z hz => K _ _ _ (hR2.Z hz))
  · have hj2 : j = 0 ∨ j = 1 ∨ j = 2 := by omega
    rcases hj2 with rfl | rfl | rfl
    · have hE2 : E = eI := (Option.some.inj hE).symm
      subst hE2
      exact lc_mark hl hL hb hi hD2 hr (wtL_mark_1 hl t hk7 hD hD2 (xs (i + 1)) (xs (i + 2)) (xs (i + 3)) e8) e9 (z47.trans (show nI (0 + 1) = (1 : Int32) by decide)) (fun h => absurd h (by decide)) (fun z hz => K _ _ _ (hR2.Z hz))
    · have hE2 : E = eA := (Option.some.inj hE).symm
      subst hE2
      exact lc_mark hl hL hb hi hD2 hr (wtL_mark_2 hl t hk7 hD hD2 (xs (i + 1)) (xs (i + 2)) (xs (i + 3)) e8) e9 (z47.trans (show nI (1 + 1) = (2 : Int32) by decide)) (fun h => absurd h (by decide)) (fun z hz => K _ _ _ (hR2.Z hz))
    · cases hE
theorem tn_node {b L : Nat} {xs : Nat → Int32} {nm : String} {l : Launch} {g : xG} {sz kc ks : Nat} (hl : l.stackTraces = false) {mo t i : Nat} {h : TH} {S : MS} {o : Nat → Int64} {k : Nat} (hL : L ≤ 3072) (hb : b < sz) (hi : i + 6 ≤ L) (hr : kc + 200 ≤ 601024 ∧ ks + 1000 ≤ 7293034) (hk : k ≤ 4000) (hR : RR mo t k h S)
    (K : ∀ h2 S2 o2, RR mo t (k + 1) h2 S2 → AL b L xs nm l g sz (kc + 200) (ks + 1000) (LW g mo h2 S2 o2) 1647 (lvL t mo b (nI i)) []) : AL b L xs nm l g sz kc ks (LW g mo h S o) 1523 (lvL t mo b (nI i)) [] := by
  have hA := call_node hR (xs (i + 1))
  obtain ⟨h2, S2, hR2, hc⟩ := hA
  have hD := hR.ld
  have hD2 := hR2.ld
  have hk7 := hR.k7
  rcases hc with ⟨v, e8, e9, z47⟩ | ⟨j, E, bb, hE, hj, e8, e9, z47⟩
  · exact lc_node hl hL hb hi hD2 hr (wtL_node_0 hl t hk7 hD hD2 (xs (i + 1)) e8) e9 z47 (fun _ => by simp [vp_updL]) (fun z hz => K _ _ _ (hR2.Z hz))
  · have hj2 : j = 0 ∨ j = 1 ∨ j = 2 := by omega
    rcases hj2 with rfl | rfl | rfl
    · have hE2 : E = eI := (Option.some.inj hE).symm
      subst hE2
      exact lc_node hl hL hb hi hD2 hr (wtL_node_1 hl t hk7 hD hD2 (xs (i + 1)) e8) e9 (z47.trans (show nI (0 + 1) = (1 : Int32) by decide)) (fun h => absurd h (by decide)) (fun z hz => K _ _ _ (hR2.Z hz))
    · cases hE
    · cases hE
theorem tn_merge {b L : Nat} {xs : Nat → Int32} {nm : String} {l : Launch} {g : xG} {sz kc ks : Nat} (hl : l.stackTraces = false) {mo t i : Nat} {h : TH} {S : MS} {o : Nat → Int64} {k : Nat} (hL : L ≤ 3072) (hb : b < sz) (hi : i + 6 ≤ L) (hr : kc + 200 ≤ 601024 ∧ ks + 1000 ≤ 7293034) (hk : k ≤ 4000) (hR : RR mo t k h S)
    (K : ∀ h2 S2 o2, RR mo t (k + 1) h2 S2 → AL b L xs nm l g sz (kc + 200) (ks + 1000) (LW g mo h2 S2 o2) 1647 (lvL t mo b (nI i)) []) : AL b L xs nm l g sz kc ks (LW g mo h S o) 1579 (lvL t mo b (nI i)) [] := by
  have hA := call_merge (by omega) hR (xs (i + 1)) (xs (i + 2))
  obtain ⟨h2, S2, hR2, hc⟩ := hA
  have hD := hR.ld
  have hD2 := hR2.ld
  have hk7 := hR.k7
  rcases hc with ⟨v, e8, e9, z47⟩ | ⟨j, E, bb, hE, hj, e8, e9, z47⟩
  · exact lc_merge hl hL hb hi hD2 hr (wtL_merge_0 hl t hk7 hD hD2 (xs (i + 1)) (xs (i + 2)) e8) e9 z47 (fun _ => by simp [vp_updL]) (fun z hz => K _ _ _ (hR2.Z hz))
  · have hj2 : j = 0 ∨ j = 1 ∨ j = 2 := by omega
    rcases hj2 with rfl | rfl | rfl
    · have hE2 : E = eI := (Option.some.inj hE).symm
      subst hE2
      exact lc_merge hl hL hb hi hD2 hr (wtL_merge_1 hl t hk7 hD hD2 (xs (i + 1)) (xs (i + 2)) e8) e9 (z47.trans (show nI (0 + 1) = (1 : Int32) by decide)) (fun h => absurd h (by decide)) (fun z hz => K _ _ _ (hR2.Z hz))
    · have hE2 : E = eA := (Option.some.inj hE).symm
      subst hE2
      exact lc_merge hl hL hb hi hD2 hr (wtL_merge_2 hl t hk7 hD hD2 (xs (i + 1)) (xs (i + 2)) e8) e9 (z47.trans (show nI (1 + 1) = (2 : Int32) by decide)) (fun h => absurd h (by decide)) (fun z hz => K _ _ _ (hR2.Z hz))
    · have hE2 : E = eS := (Option.some.inj hE).symm
      subst hE2
      exact lc_merge hl hL hb hi hD2 hr (wtL_merge_3 hl t hk7 hD hD2 (xs (i + 1)) (xs (i + 2)) e8) e9 (z47.trans (show nI (2 + 1) = (3 : Int32) by decide)) (fun h => absurd h (by decide)) (fun z hz => K _ _ _ (hR2.Z hz))
