/-! the law: its loop -/
theorem dl_23 : decode code 23 = .ok (.iload 4, 2) := by decide +kernel
theorem dl_25 : decode code 25 = .ok (.aload_n 0, 1) := by decide +kernel
theorem dl_26 : decode code 26 = .ok (.arraylength, 1) := by decide +kernel
theorem dl_27 : decode code 27 = .ok (.bipush 6, 2) := by decide +kernel
theorem dl_29 : decode code 29 = .ok (.isub, 1) := by decide +kernel
theorem dl_30 : decode code 30 = .ok (.if_icmp .gt 1698, 3) := by decide +kernel
theorem dl_33 : decode code 33 = .ok (.aload_n 0, 1) := by decide +kernel
theorem dl_34 : decode code 34 = .ok (.iload 4, 2) := by decide +kernel
theorem dl_36 : decode code 36 = .ok (.iaload, 1) := by decide +kernel
theorem dl_37 : decode code 37 = .ok (.bipush 63, 2) := by decide +kernel
theorem dl_39 : decode code 39 = .ok (.iand, 1) := by decide +kernel
theorem dl_40 : decode code 40 = .ok (.tableswitch 1682 0 40 #[180, 253, 278, 291, 304, 384, 452, 489, 538, 618, 667, 692, 717, 754, 779, 792, 829, 866, 891, 916, 965, 1014, 1075, 1112, 1137, 1186, 1211, 1272, 1321, 1394, 1431, 1444, 1481, 1494, 1531, 1544, 1569, 1582, 1607, 1632, 1657], 180) := by decide +kernel
theorem dl_1722 : decode code 1722 = .ok (.iinc 4 6, 3) := by decide +kernel
theorem dl_1725 : decode code 1725 = .ok (.goto (-1702), 3) := by decide +kernel
theorem dl_1728 : decode code 1728 = .ok (.iconst 1, 1) := by decide +kernel
theorem dl_1729 : decode code 1729 = .ok (.ireturn, 1) := by decide +kernel
theorem and63 (z : Int32) : ∃ a, a < 64 ∧ z &&& 63 = nI a := by
  have h : (z &&& 63).toBitVec.toNat < 64 := by
    have e : (z &&& 63).toBitVec = z.toBitVec &&& (63 : BitVec 32) := rfl
    rw [e, BitVec.toNat_and]
    have : (63 : BitVec 32).toNat = 63 := rfl
    rw [this]
    have := Nat.and_le_right (n := z.toBitVec.toNat) (m := 63)
    omega
  refine ⟨_, h, ?_⟩
  show z &&& 63 = ⟨⟨BitVec.ofNat 32 (z &&& 63).toBitVec.toNat⟩⟩
  rw [BitVec.ofNat_toNat, BitVec.setWidth_eq]
  rfl
/-- a call that may throw -/
def Thr (x : Cx) (b L p : Nat) : Prop := ∀ k cs ss m, k + 6 ≤ L → Inv m → cs + 1 ≤ 601024 → ss + 6 ≤ 7293034 → (∀ cs' ss' m2, cs' ≤ cs + 1 → ss' ≤ ss + 6 → Inv m2 → EV M_law x cs' ss' 1722 (lvL x b k) [] m2) → EV M_law x cs ss p (lvL x b k) [] m
theorem vin0 {k L : Nat} (h : k < L) (hL : L ≤ 3072) : vp_in (nI k) L := by
  rintro (z | z)
  · rw [k0, n_lt (by omega) (by omega)] at z; omega
  · rw [clampn (by omega)] at z; omega
theorem law_step {x : Cx} {b L k cs ss : Nat} {xs : Nat → Int32} {m : Mem} (hX : Scr x b L xs) (hL : L ≤ 3072) (hR : xR x = room_1) (T4 : Thr x b L 344) (T5 : Thr x b L 424) (T8 : Thr x b L 578) (hk : k + 6 ≤ L) (hI : Inv m) (hc : cs + 1 ≤ 601024) (hs : ss + 6 ≤ 7293034) (h : ∀ cs' ss' m2, cs' ≤ cs + 1 → ss' ≤ ss + 6 → Inv m2 → EV M_law x cs' ss' 1722 (lvL x b k) [] m2) (y : Int32) : EV M_law x cs ss 40 (lvL x b k) [.int (y &&& 63)] m := by
  have hz : cs ≤ (xR x).cells ∧ ss ≤ (xR x).slots := by rw [hR]; exact ⟨show cs ≤ 601024 by omega, show ss ≤ 7293034 by omega⟩
  have h' : ∀ m2, Inv m2 → EV M_law x cs ss 1722 (lvL x b k) [] m2 := fun m2 i => h cs ss m2 (by omega) (by omega) i
  obtain ⟨a, ha, ea⟩ := and63 y
  rw [ea]
  by_cases q : a ≤ 40
  · rcases (show a = 0 ∨ a = 1 ∨ a = 2 ∨ a = 3 ∨ a = 4 ∨ a = 5 ∨ a = 6 ∨ a = 7 ∨ a = 8 ∨ a = 9 ∨ a = 10 ∨ a = 11 ∨ a = 12 ∨ a = 13 ∨ a = 14 ∨ a = 15 ∨ a = 16 ∨ a = 17 ∨ a = 18 ∨ a = 19 ∨ a = 20 ∨ a = 21 ∨ a = 22 ∨ a = 23 ∨ a = 24 ∨ a = 25 ∨ a = 26 ∨ a = 27 ∨ a = 28 ∨ a = 29 ∨ a = 30 ∨ a = 31 ∨ a = 32 ∨ a = 33 ∨ a = 34 ∨ a = 35 ∨ a = 36 ∨ a = 37 ∨ a = 38 ∨ a = 39 ∨ a = 40 by omega) with rfl | rfl | rfl | rfl | rfl | rfl | rfl | rfl | rfl | rfl | rfl | rfl | rfl | rfl | rfl | rfl | rfl | rfl | rfl | rfl | rfl | rfl | rfl | rfl | rfl | rfl | rfl | rfl | rfl | rfl | rfl | rfl | rfl | rfl | rfl | rfl | rfl | rfl | rfl | rfl | rfl
    · refine V_tableIn (M := M_law) (off := 180) (t := 220) dl_40 (by decide) (by decide) (by decide +kernel) rfl (V_case (p := 220) (n := 5) hX hL hk (by omega) hR hz dC_0 cA_0 cB_0 (by decide) (by decide) (P_feed hI (sa xs k 1) (sa xs k 2) (sa xs k 3) (sa xs k 4) (sa xs k 5)) h')
    · refine V_tableIn (M := M_law) (off := 253) (t := 293) dl_40 (by decide) (by decide) (by decide +kernel) rfl (V_case (p := 293) (n := 1) hX hL hk (by omega) hR hz dC_1 cA_1 cB_1 (by decide) (by decide) (P_end hI (sa xs k 1)) h')
    · refine V_tableIn (M := M_law) (off := 278) (t := 318) dl_40 (by decide) (by decide) (by decide +kernel) rfl (V_case (p := 318) (n := 0) hX hL hk (by omega) hR hz dC_2 cA_2 cB_2 (by decide) (by decide) (P_parish hI ) h')
    · refine V_tableIn (M := M_law) (off := 291) (t := 331) dl_40 (by decide) (by decide) (by decide +kernel) rfl (V_case (p := 331) (n := 0) hX hL hk (by omega) hR hz dC_3 cA_3 cB_3 (by decide) (by decide) (P_fault hI ) h')
    · refine V_tableIn (M := M_law) (off := 304) (t := 344) dl_40 (by decide) (by decide) (by decide +kernel) rfl (T4 k cs ss m hk hI hc hs h)
    · refine V_tableIn (M := M_law) (off := 384) (t := 424) dl_40 (by decide) (by decide) (by decide +kernel) rfl (T5 k cs ss m hk hI hc hs h)
    · refine V_tableIn (M := M_law) (off := 452) (t := 492) dl_40 (by decide) (by decide) (by decide +kernel) rfl (V_case (p := 492) (n := 2) hX hL hk (by omega) hR hz dC_6 cA_6 cB_6 (by decide) (by decide) (P_line hI (sa xs k 1) (sa xs k 2)) h')
    · refine V_tableIn (M := M_law) (off := 489) (t := 529) dl_40 (by decide) (by decide) (by decide +kernel) rfl (V_case (p := 529) (n := 3) hX hL hk (by omega) hR hz dC_7 cA_7 cB_7 (by decide) (by decide) (P_whose hI (sa xs k 1) (sa xs k 2) (sa xs k 3)) h')
    · refine V_tableIn (M := M_law) (off := 538) (t := 578) dl_40 (by decide) (by decide) (by decide +kernel) rfl (T8 k cs ss m hk hI hc hs h)
    · refine V_tableIn (M := M_law) (off := 618) (t := 658) dl_40 (by decide) (by decide) (by decide +kernel) rfl (V_case (p := 658) (n := 3) hX hL hk (by omega) hR hz dC_9 cA_9 cB_9 (by decide) (by decide) (P_square hI (sa xs k 1) (sa xs k 2) (sa xs k 3)) h')
    · refine V_tableIn (M := M_law) (off := 667) (t := 707) dl_40 (by decide) (by decide) (by decide +kernel) rfl (V_case (p := 707) (n := 1) hX hL hk (by omega) hR hz dC_10 cA_10 cB_10 (by decide) (by decide) (P_acres hI (sa xs k 1)) h')
    · refine V_tableIn (M := M_law) (off := 692) (t := 732) dl_40 (by decide) (by decide) (by decide +kernel) rfl (V_case (p := 732) (n := 1) hX hL hk (by omega) hR hz dC_11 cA_11 cB_11 (by decide) (by decide) (P_border hI (sa xs k 1)) h')
    · refine V_tableIn (M := M_law) (off := 717) (t := 757) dl_40 (by decide) (by decide) (by decide +kernel) rfl (V_case (p := 757) (n := 2) hX hL hk (by omega) hR hz dC_12 cA_12 cB_12 (by decide) (by decide) (P_within hI (sa xs k 1) (sa xs k 2)) h')
    · refine V_tableIn (M := M_law) (off := 754) (t := 794) dl_40 (by decide) (by decide) (by decide +kernel) rfl (V_case (p := 794) (n := 1) hX hL hk (by omega) hR hz dC_13 cA_13 cB_13 (by decide) (by decide) (P_claims hI (sa xs k 1)) h')
    · refine V_tableIn (M := M_law) (off := 779) (t := 819) dl_40 (by decide) (by decide) (by decide +kernel) rfl (V_case (p := 819) (n := 0) hX hL hk (by omega) hR hz dC_14 cA_14 cB_14 (by decide) (by decide) (P_wrong hI ) h')
    · refine V_tableIn (M := M_law) (off := 792) (t := 832) dl_40 (by decide) (by decide) (by decide +kernel) rfl (V_case (p := 832) (n := 2) hX hL hk (by omega) hR hz dC_15 cA_15 cB_15 (by decide) (by decide) (P_loads hI (sa xs k 1) (sa xs k 2)) h')
    · refine V_tableIn (M := M_law) (off := 829) (t := 869) dl_40 (by decide) (by decide) (by decide +kernel) rfl (V_case (p := 869) (n := 2) hX hL hk (by omega) hR hz dC_16 cA_16 cB_16 (by decide) (by decide) (P_heir hI (sa xs k 1) (sa xs k 2)) h')
    · refine V_tableIn (M := M_law) (off := 866) (t := 906) dl_40 (by decide) (by decide) (by decide +kernel) rfl (V_case (p := 906) (n := 1) hX hL hk (by omega) hR hz dC_17 cA_17 cB_17 (by decide) (by decide) (P_estate hI (sa xs k 1)) h')
    · refine V_tableIn (M := M_law) (off := 891) (t := 931) dl_40 (by decide) (by decide) (by decide +kernel) rfl (V_case (p := 931) (n := 1) hX hL hk (by omega) hR hz dC_18 cA_18 cB_18 (by decide) (by decide) (P_pieces hI (sa xs k 1)) h')
    · refine V_tableIn (M := M_law) (off := 916) (t := 956) dl_40 (by decide) (by decide) (by decide +kernel) rfl (V_case (p := 956) (n := 3) hX hL hk (by omega) hR hz dC_19 cA_19 cB_19 (by decide) (by decide) (P_piece hI (sa xs k 1) (sa xs k 2) (sa xs k 3)) h')
    · refine V_tableIn (M := M_law) (off := 965) (t := 1005) dl_40 (by decide) (by decide) (by decide +kernel) rfl (V_case (p := 1005) (n := 3) hX hL hk (by omega) hR hz dC_20 cA_20 cB_20 (by decide) (by decide) (P_pieceAt hI (sa xs k 1) (sa xs k 2) (sa xs k 3)) h')
    · refine V_tableIn (M := M_law) (off := 1014) (t := 1054) dl_40 (by decide) (by decide) (by decide +kernel) rfl (V_case (p := 1054) (n := 4) hX hL hk (by omega) hR hz dC_21 cA_21 cB_21 (by decide) (by decide) (P_crosses hI (sa xs k 1) (sa xs k 2) (sa xs k 3) (sa xs k 4)) h')
    · refine V_tableIn (M := M_law) (off := 1075) (t := 1115) dl_40 (by decide) (by decide) (by decide +kernel) rfl (V_case (p := 1115) (n := 2) hX hL hk (by omega) hR hz dC_22 cA_22 cB_22 (by decide) (by decide) (P_walk hI (sa xs k 1) (sa xs k 2)) h')
    · refine V_tableIn (M := M_law) (off := 1112) (t := 1152) dl_40 (by decide) (by decide) (by decide +kernel) rfl (V_case (p := 1152) (n := 1) hX hL hk (by omega) hR hz dC_23 cA_23 cB_23 (by decide) (by decide) (P_walked hI (sa xs k 1)) h')
    · refine V_tableIn (M := M_law) (off := 1137) (t := 1177) dl_40 (by decide) (by decide) (by decide +kernel) rfl (V_case (p := 1177) (n := 3) hX hL hk (by omega) hR hz dC_24 cA_24 cB_24 (by decide) (by decide) (P_least hI (sa xs k 1) (sa xs k 2) (sa xs k 3)) h')
    · refine V_tableIn (M := M_law) (off := 1186) (t := 1226) dl_40 (by decide) (by decide) (by decide +kernel) rfl (V_case (p := 1226) (n := 1) hX hL hk (by omega) hR hz dC_25 cA_25 cB_25 (by decide) (by decide) (P_stiles hI (sa xs k 1)) h')
    · refine V_tableIn (M := M_law) (off := 1211) (t := 1251) dl_40 (by decide) (by decide) (by decide +kernel) rfl (V_case (p := 1251) (n := 4) hX hL hk (by omega) hR hz dC_26 cA_26 cB_26 (by decide) (by decide) (P_move hI (sa xs k 1) (sa xs k 2) (sa xs k 3) (sa xs k 4)) h')
    · refine V_tableIn (M := M_law) (off := 1272) (t := 1312) dl_40 (by decide) (by decide) (by decide +kernel) rfl (V_case (p := 1312) (n := 3) hX hL hk (by omega) hR hz dC_27 cA_27 cB_27 (by decide) (by decide) (P_shift hI (sa xs k 1) (sa xs k 2) (sa xs k 3)) h')
    · refine V_tableIn (M := M_law) (off := 1321) (t := 1361) dl_40 (by decide) (by decide) (by decide +kernel) rfl (V_case (p := 1361) (n := 5) hX hL hk (by omega) hR hz dC_28 cA_28 cB_28 (by decide) (by decide) (P_moved hI (sa xs k 1) (sa xs k 2) (sa xs k 3) (sa xs k 4) (sa xs k 5)) h')
    · refine V_tableIn (M := M_law) (off := 1394) (t := 1434) dl_40 (by decide) (by decide) (by decide +kernel) rfl (V_case (p := 1434) (n := 2) hX hL hk (by omega) hR hz dC_29 cA_29 cB_29 (by decide) (by decide) (P_nights hI (sa xs k 1) (sa xs k 2)) h')
    · refine V_tableIn (M := M_law) (off := 1431) (t := 1471) dl_40 (by decide) (by decide) (by decide +kernel) rfl (V_case (p := 1471) (n := 0) hX hL hk (by omega) hR hz dC_30 cA_30 cB_30 (by decide) (by decide) (P_undo hI ) h')
    · refine V_tableIn (M := M_law) (off := 1444) (t := 1484) dl_40 (by decide) (by decide) (by decide +kernel) rfl (V_case (p := 1484) (n := 2) hX hL hk (by omega) hR hz dC_31 cA_31 cB_31 (by decide) (by decide) (P_byNight hI (sa xs k 1) (sa xs k 2)) h')
    · refine V_tableIn (M := M_law) (off := 1481) (t := 1521) dl_40 (by decide) (by decide) (by decide +kernel) rfl (V_case (p := 1521) (n := 0) hX hL hk (by omega) hR hz dC_32 cA_32 cB_32 (by decide) (by decide) (P_ways hI ) h')
    · refine V_tableIn (M := M_law) (off := 1494) (t := 1534) dl_40 (by decide) (by decide) (by decide +kernel) rfl (V_case (p := 1534) (n := 2) hX hL hk (by omega) hR hz dC_33 cA_33 cB_33 (by decide) (by decide) (P_way hI (sa xs k 1) (sa xs k 2)) h')
    · refine V_tableIn (M := M_law) (off := 1531) (t := 1571) dl_40 (by decide) (by decide) (by decide +kernel) rfl (V_case (p := 1571) (n := 0) hX hL hk (by omega) hR hz dC_34 cA_34 cB_34 (by decide) (by decide) (P_rectangle hI ) h')
    · refine V_tableIn (M := M_law) (off := 1544) (t := 1584) dl_40 (by decide) (by decide) (by decide +kernel) rfl (V_case (p := 1584) (n := 1) hX hL hk (by omega) hR hz dC_35 cA_35 cB_35 (by decide) (by decide) (P_side hI (sa xs k 1)) h')
    · refine V_tableIn (M := M_law) (off := 1569) (t := 1609) dl_40 (by decide) (by decide) (by decide +kernel) rfl (V_case (p := 1609) (n := 0) hX hL hk (by omega) hR hz dC_36 cA_36 cB_36 (by decide) (by decide) (P_paces hI ) h')
    · refine V_tableIn (M := M_law) (off := 1582) (t := 1622) dl_40 (by decide) (by decide) (by decide +kernel) rfl (V_case (p := 1622) (n := 1) hX hL hk (by omega) hR hz dC_37 cA_37 cB_37 (by decide) (by decide) (P_paced hI (sa xs k 1)) h')
    · refine V_tableIn (M := M_law) (off := 1607) (t := 1647) dl_40 (by decide) (by decide) (by decide +kernel) rfl (V_case (p := 1647) (n := 1) hX hL hk (by omega) hR hz dC_38 cA_38 cB_38 (by decide) (by decide) (P_image hI (sa xs k 1)) h')
    · refine V_tableIn (M := M_law) (off := 1632) (t := 1672) dl_40 (by decide) (by decide) (by decide +kernel) rfl (V_case (p := 1672) (n := 1) hX hL hk (by omega) hR hz dC_39 cA_39 cB_39 (by decide) (by decide) (P_restore hI (sa xs k 1)) h')
    · refine V_tableIn (M := M_law) (off := 1657) (t := 1697) dl_40 (by decide) (by decide) (by decide +kernel) rfl (V_case (p := 1697) (n := 1) hX hL hk (by omega) hR hz dC_40 cA_40 cB_40 (by decide) (by decide) (P_count hI (sa xs k 1)) h')
  · refine V_tableOut (M := M_law) (t := 1722) dl_40 (Or.inr ?_) rfl (h' m hI)
    rw [n_toInt (by omega)]; omega
theorem law_loop {x : Cx} {b L : Nat} {xs : Nat → Int32} (hX : Scr x b L xs) (hL : L ≤ 3072) (hR : xR x = room_1) (T4 : Thr x b L 344) (T5 : Thr x b L 424) (T8 : Thr x b L 578) (hend : ∀ k cs ss m, cs ≤ 601024 → ss ≤ 7293034 → EV M_law x cs ss 1729 (lvL x b k) [.int 1] m) : ∀ (f k cs ss : Nat) (m : Mem), L + 6 ≤ k + 6 * f → k ≤ L → Inv m → cs + f ≤ 601024 → ss + 6 * f ≤ 7293034 → EV M_law x cs ss 23 (lvL x b k) [] m
  | 0, k, cs, ss, m, hf, hkL, hI, hc, hs => by omega
  | f + 1, k, cs, ss, m, hf, hkL, hI, hc, hs => by
    have e6 : (Int32.ofNat L - 6 : Int32) = iz ((L : Int) - 6) := by
      rw [show (6 : Int32) = iz 6 from by decide, show Int32.ofNat L = iz (L : Int) from nI_iz L, iz_sub]
    have cmp : (Int32.ofNat L - 6 < nI k) ↔ L < k + 6 := by
      rw [e6, nI_iz, iz_lt (by omega) (by omega)]; omega
    refine V_iload (M := M_law) dl_23 rfl 4 rfl <| V_aload_n (M := M_law) dl_25 rfl rfl 0 rfl <| V_slen (M := M_law) hX dl_26 rfl <| V_bipush (M := M_law) dl_27 rfl (v := 6) (by decide) <| V_isub (M := M_law) dl_29 rfl <| V_icmp_gt (M := M_law) (t := 1728) dl_30 rfl rfl (fun z => ?_) (fun z => ?_)
    · exact V_iconst (M := M_law) dl_1728 rfl (v := 1) (by decide) (hend k cs ss m (by omega) (by omega))
    · have hk : k + 6 ≤ L := by
        rw [cmp] at z; omega
      refine V_aload_n (M := M_law) dl_33 rfl rfl 0 rfl <| V_iload (M := M_law) dl_34 rfl 4 rfl <| V_sld (M := M_law) hX (vin0 (by omega) hL) dl_36 rfl <| V_bipush (M := M_law) dl_37 rfl (v := 63) (by decide) <| V_iand (M := M_law) dl_39 rfl <| law_step hX hL hR T4 T5 T8 hk hI (by omega) (by omega) ?_ _
      intro cs' ss' m2 h1 h2 i2
      refine V_iinc (M := M_law) dl_1722 rfl 4 rfl (v := nI (k + 6)) (by rw [show Int32.ofInt 6 = nI 6 by decide, n_add]) (by decide) [1, 2, 3, 4, 0] rfl <| V_goto (M := M_law) (t := 23) dl_1725 rfl <| law_loop hX hL hR T4 T5 T8 hend f (k + 6) cs' ss' m2 (by omega) (by omega) i2 (by omega) (by omega)
