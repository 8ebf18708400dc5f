/-! ===== the law: its cases (made by genlaw.py) ===== -/
section LAWC
variable {E : gz_C} {b0 Ls : Nat} {xs : Nat → Int32} {d mc ms n i : Nat} {A : sA} {Q : sQ} {v : Nat → Nat} {M : dM}
set_option maxRecDepth 100000 in
set_option maxHeartbeats 2000000 in
theorem lc_0 (h : INV n A Q v M) (hi : 8 * i + 8 ≤ Ls) (hL : Ls ≤ 4096) (hd : 100 ≤ d) (K : ∀ (A : sA) (Q : sQ) (v : Nat → Nat) (M2 : dM), INV n A Q v M2 → lawW (lawP E b0 Ls xs) d mc ms lawQ 1900 (lawL i) [] M2) : lawW (lawP E b0 Ls xs) d mc ms lawQ 208 (lawL i) [] M := by
  obtain ⟨b, M1, M2, A', Q', v', h1, h2, h3⟩ := st_layer h (xs (8 * i + 1)) (xs (8 * i + 2)) (xs (8 * i + 3))
  refine gx_aload_n (i := 1) (n := 209) ⟨by decide +kernel, rfl⟩ rfl ?_
  refine lx_arg (i := i) 1 (by omega) hL (by decide +kernel) (by decide +kernel) (by decide +kernel) rfl (by decide +kernel) (by decide +kernel) rfl rfl ?_
  refine lx_arg (i := i) 2 (by omega) hL (by decide +kernel) (by decide +kernel) (by decide +kernel) rfl (by decide +kernel) (by decide +kernel) rfl rfl ?_
  refine lx_arg (i := i) 3 (by omega) hL (by decide +kernel) (by decide +kernel) (by decide +kernel) rfl (by decide +kernel) (by decide +kernel) rfl rfl ?_
  refine gw_callV (vs := [.int (xs (8 * i + 1)), .int (xs (8 * i + 2)), .int (xs (8 * i + 3))]) (n := 230) kmX11_layer kvX11_layer l_0 (by decide +kernel) (by decide +kernel) ⟨by decide +kernel, rfl⟩ klL_22 (ok_ax_layer (xs (8 * i + 1)) (xs (8 * i + 2)) (xs (8 * i + 3)) M h1) rfl rfl (by omega) (Nat.le_of_ble_eq_true rfl) rfl rfl ?_
  refine gx_aload_n (i := 2) (n := 231) ⟨by decide +kernel, rfl⟩ rfl ?_
  refine lx_arg (i := i) 1 (by omega) hL (by decide +kernel) (by decide +kernel) (by decide +kernel) rfl (by decide +kernel) (by decide +kernel) rfl rfl ?_
  refine lx_arg (i := i) 2 (by omega) hL (by decide +kernel) (by decide +kernel) (by decide +kernel) rfl (by decide +kernel) (by decide +kernel) rfl rfl ?_
  refine lx_arg (i := i) 3 (by omega) hL (by decide +kernel) (by decide +kernel) (by decide +kernel) rfl (by decide +kernel) (by decide +kernel) rfl rfl ?_
  refine gw_callV (vs := [.int (xs (8 * i + 1)), .int (xs (8 * i + 2)), .int (xs (8 * i + 3))]) (n := 252) kmX12_layer kvX12_layer l_66 (by decide +kernel) (by decide +kernel) ⟨by decide +kernel, rfl⟩ klL_26 (ok_mo_layer (xs (8 * i + 1)) (xs (8 * i + 2)) (xs (8 * i + 3)) M1 h2) rfl rfl (by omega) (Nat.le_of_ble_eq_true rfl) rfl rfl ?_
  exact gx_icmp_eq (n := 255) (t := 1900) (off := 1648) ⟨by decide +kernel, rfl, by decide⟩ (fun _ => K A' Q' v' M2 h3) (fun z => absurd rfl z)
set_option maxRecDepth 100000 in
set_option maxHeartbeats 2000000 in
theorem lc_4 (h : INV n A Q v M) (hi : 8 * i + 8 ≤ Ls) (hL : Ls ≤ 4096) (hd : 100 ≤ d) (K : ∀ (A : sA) (Q : sQ) (v : Nat → Nat) (M2 : dM), INV n A Q v M2 → lawW (lawP E b0 Ls xs) d mc ms lawQ 1900 (lawL i) [] M2) : lawW (lawP E b0 Ls xs) d mc ms lawQ 480 (lawL i) [] M := by
  obtain ⟨b, M1, M2, A', Q', v', h1, h2, h3⟩ := st_feed h (((xs (8 * i + 1)).toInt64 <<< ((32 : Int32).toInt64 &&& 63)) ||| ((xs (8 * i + 2)).toInt64 &&& (4294967295 : Int64))) (((xs (8 * i + 3)).toInt64 <<< ((32 : Int32).toInt64 &&& 63)) ||| ((xs (8 * i + 4)).toInt64 &&& (4294967295 : Int64))) (((xs (8 * i + 5)).toInt64 <<< ((32 : Int32).toInt64 &&& 63)) ||| ((xs (8 * i + 6)).toInt64 &&& (4294967295 : Int64)))
  refine gx_aload_n (i := 1) (n := 481) ⟨by decide +kernel, rfl⟩ rfl ?_
  refine lx_arg (i := i) 1 (by omega) hL (by decide +kernel) (by decide +kernel) (by decide +kernel) rfl (by decide +kernel) (by decide +kernel) rfl rfl ?_
  refine gx_i2l (n := 488) ⟨by decide +kernel, rfl⟩ ?_
  refine gx_bipush (i := 32) (v := 32) (n := 490) ⟨by decide +kernel, rfl⟩ (by decide) ?_
  refine gx_lshl (n := 491) ⟨by decide +kernel, rfl⟩ ?_
  refine lx_arg (i := i) 2 (by omega) hL (by decide +kernel) (by decide +kernel) (by decide +kernel) rfl (by decide +kernel) (by decide +kernel) rfl rfl ?_
  refine gx_i2l (n := 498) ⟨by decide +kernel, rfl⟩ ?_
  refine gx_ldc2 (i := 41) (v := 4294967295) (n := 501) ⟨by decide +kernel, rfl⟩ (mz_in 2220 (by decide +kernel) (by decide +kernel)) ?_
  refine gx_land (n := 502) ⟨by decide +kernel, rfl⟩ ?_
  refine gx_lor (n := 503) ⟨by decide +kernel, rfl⟩ ?_
  refine lx_arg (i := i) 3 (by omega) hL (by decide +kernel) (by decide +kernel) (by decide +kernel) rfl (by decide +kernel) (by decide +kernel) rfl rfl ?_
  refine gx_i2l (n := 510) ⟨by decide +kernel, rfl⟩ ?_
  refine gx_bipush (i := 32) (v := 32) (n := 512) ⟨by decide +kernel, rfl⟩ (by decide) ?_
  refine gx_lshl (n := 513) ⟨by decide +kernel, rfl⟩ ?_
  refine lx_arg (i := i) 4 (by omega) hL (by decide +kernel) (by decide +kernel) (by decide +kernel) rfl (by decide +kernel) (by decide +kernel) rfl rfl ?_
  refine gx_i2l (n := 520) ⟨by decide +kernel, rfl⟩ ?_
  refine gx_ldc2 (i := 41) (v := 4294967295) (n := 523) ⟨by decide +kernel, rfl⟩ (mz_in 2220 (by decide +kernel) (by decide +kernel)) ?_
  refine gx_land (n := 524) ⟨by decide +kernel, rfl⟩ ?_
  refine gx_lor (n := 525) ⟨by decide +kernel, rfl⟩ ?_
  refine lx_arg (i := i) 5 (by omega) hL (by decide +kernel) (by decide +kernel) (by decide +kernel) rfl (by decide +kernel) (by decide +kernel) rfl rfl ?_
  refine gx_i2l (n := 532) ⟨by decide +kernel, rfl⟩ ?_
  refine gx_bipush (i := 32) (v := 32) (n := 534) ⟨by decide +kernel, rfl⟩ (by decide) ?_
  refine gx_lshl (n := 535) ⟨by decide +kernel, rfl⟩ ?_
  refine lx_argB (i := i) 6 (by omega) hL (by decide +kernel) (by decide +kernel) (by decide +kernel) rfl (by decide +kernel) (by decide +kernel) rfl rfl ?_
  refine gx_i2l (n := 543) ⟨by decide +kernel, rfl⟩ ?_
  refine gx_ldc2 (i := 41) (v := 4294967295) (n := 546) ⟨by decide +kernel, rfl⟩ (mz_in 2220 (by decide +kernel) (by decide +kernel)) ?_
  refine gx_land (n := 547) ⟨by decide +kernel, rfl⟩ ?_
  refine gx_lor (n := 548) ⟨by decide +kernel, rfl⟩ ?_
  refine gw_callV (vs := [.long (((xs (8 * i + 1)).toInt64 <<< ((32 : Int32).toInt64 &&& 63)) ||| ((xs (8 * i + 2)).toInt64 &&& (4294967295 : Int64))), .long (((xs (8 * i + 3)).toInt64 <<< ((32 : Int32).toInt64 &&& 63)) ||| ((xs (8 * i + 4)).toInt64 &&& (4294967295 : Int64))), .long (((xs (8 * i + 5)).toInt64 <<< ((32 : Int32).toInt64 &&& 63)) ||| ((xs (8 * i + 6)).toInt64 &&& (4294967295 : Int64)))]) (n := 551) kmX11_feed kvX11_feed l_0 (by decide +kernel) (by decide +kernel) ⟨by decide +kernel, rfl⟩ klL_43 (ok_ax_feed (((xs (8 * i + 1)).toInt64 <<< ((32 : Int32).toInt64 &&& 63)) ||| ((xs (8 * i + 2)).toInt64 &&& (4294967295 : Int64))) (((xs (8 * i + 3)).toInt64 <<< ((32 : Int32).toInt64 &&& 63)) ||| ((xs (8 * i + 4)).toInt64 &&& (4294967295 : Int64))) (((xs (8 * i + 5)).toInt64 <<< ((32 : Int32).toInt64 &&& 63)) ||| ((xs (8 * i + 6)).toInt64 &&& (4294967295 : Int64))) M h1) rfl rfl (by omega) (Nat.le_of_ble_eq_true rfl) rfl rfl ?_
  refine gx_aload_n (i := 2) (n := 552) ⟨by decide +kernel, rfl⟩ rfl ?_
  refine lx_arg (i := i) 1 (by omega) hL (by decide +kernel) (by decide +kernel) (by decide +kernel) rfl (by decide +kernel) (by decide +kernel) rfl rfl ?_
  refine gx_i2l (n := 559) ⟨by decide +kernel, rfl⟩ ?_
  refine gx_bipush (i := 32) (v := 32) (n := 561) ⟨by decide +kernel, rfl⟩ (by decide) ?_
  refine gx_lshl (n := 562) ⟨by decide +kernel, rfl⟩ ?_
  refine lx_arg (i := i) 2 (by omega) hL (by decide +kernel) (by decide +kernel) (by decide +kernel) rfl (by decide +kernel) (by decide +kernel) rfl rfl ?_
  refine gx_i2l (n := 569) ⟨by decide +kernel, rfl⟩ ?_
  refine gx_ldc2 (i := 41) (v := 4294967295) (n := 572) ⟨by decide +kernel, rfl⟩ (mz_in 2220 (by decide +kernel) (by decide +kernel)) ?_
  refine gx_land (n := 573) ⟨by decide +kernel, rfl⟩ ?_
  refine gx_lor (n := 574) ⟨by decide +kernel, rfl⟩ ?_
  refine lx_arg (i := i) 3 (by omega) hL (by decide +kernel) (by decide +kernel) (by decide +kernel) rfl (by decide +kernel) (by decide +kernel) rfl rfl ?_
  refine gx_i2l (n := 581) ⟨by decide +kernel, rfl⟩ ?_
  refine gx_bipush (i := 32) (v := 32) (n := 583) ⟨by decide +kernel, rfl⟩ (by decide) ?_
  refine gx_lshl (n := 584) ⟨by decide +kernel, rfl⟩ ?_
  refine lx_arg (i := i) 4 (by omega) hL (by decide +kernel) (by decide +kernel) (by decide +kernel) rfl (by decide +kernel) (by decide +kernel) rfl rfl ?_
  refine gx_i2l (n := 591) ⟨by decide +kernel, rfl⟩ ?_
  refine gx_ldc2 (i := 41) (v := 4294967295) (n := 594) ⟨by decide +kernel, rfl⟩ (mz_in 2220 (by decide +kernel) (by decide +kernel)) ?_
  refine gx_land (n := 595) ⟨by decide +kernel, rfl⟩ ?_
  refine gx_lor (n := 596) ⟨by decide +kernel, rfl⟩ ?_
  refine lx_arg (i := i) 5 (by omega) hL (by decide +kernel) (by decide +kernel) (by decide +kernel) rfl (by decide +kernel) (by decide +kernel) rfl rfl ?_
  refine gx_i2l (n := 603) ⟨by decide +kernel, rfl⟩ ?_
  refine gx_bipush (i := 32) (v := 32) (n := 605) ⟨by decide +kernel, rfl⟩ (by decide) ?_
  refine gx_lshl (n := 606) ⟨by decide +kernel, rfl⟩ ?_
  refine lx_argB (i := i) 6 (by omega) hL (by decide +kernel) (by decide +kernel) (by decide +kernel) rfl (by decide +kernel) (by decide +kernel) rfl rfl ?_
  refine gx_i2l (n := 614) ⟨by decide +kernel, rfl⟩ ?_
  refine gx_ldc2 (i := 41) (v := 4294967295) (n := 617) ⟨by decide +kernel, rfl⟩ (mz_in 2220 (by decide +kernel) (by decide +kernel)) ?_
  refine gx_land (n := 618) ⟨by decide +kernel, rfl⟩ ?_
  refine gx_lor (n := 619) ⟨by decide +kernel, rfl⟩ ?_
  refine gw_callV (vs := [.long (((xs (8 * i + 1)).toInt64 <<< ((32 : Int32).toInt64 &&& 63)) ||| ((xs (8 * i + 2)).toInt64 &&& (4294967295 : Int64))), .long (((xs (8 * i + 3)).toInt64 <<< ((32 : Int32).toInt64 &&& 63)) ||| ((xs (8 * i + 4)).toInt64 &&& (4294967295 : Int64))), .long (((xs (8 * i + 5)).toInt64 <<< ((32 : Int32).toInt64 &&& 63)) ||| ((xs (8 * i + 6)).toInt64 &&& (4294967295 : Int64)))]) (n := 622) kmX12_feed kvX12_feed l_66 (by decide +kernel) (by decide +kernel) ⟨by decide +kernel, rfl⟩ klL_47 (ok_mo_feed (((xs (8 * i + 1)).toInt64 <<< ((32 : Int32).toInt64 &&& 63)) ||| ((xs (8 * i + 2)).toInt64 &&& (4294967295 : Int64))) (((xs (8 * i + 3)).toInt64 <<< ((32 : Int32).toInt64 &&& 63)) ||| ((xs (8 * i + 4)).toInt64 &&& (4294967295 : Int64))) (((xs (8 * i + 5)).toInt64 <<< ((32 : Int32).toInt64 &&& 63)) ||| ((xs (8 * i + 6)).toInt64 &&& (4294967295 : Int64))) M1 h2) rfl rfl (by omega) (Nat.le_of_ble_eq_true rfl) rfl rfl ?_
  exact gx_icmp_eq (n := 625) (t := 1900) (off := 1278) ⟨by decide +kernel, rfl, by decide⟩ (fun _ => K A' Q' v' M2 h3) (fun z => absurd rfl z)
set_option maxRecDepth 100000 in
set_option maxHeartbeats 2000000 in
theorem lc_5 (h : INV n A Q v M) (hi : 8 * i + 8 ≤ Ls) (hL : Ls ≤ 4096) (hd : 100 ≤ d) (K : ∀ (A : sA) (Q : sQ) (v : Nat → Nat) (M2 : dM), INV n A Q v M2 → lawW (lawP E b0 Ls xs) d mc ms lawQ 1900 (lawL i) [] M2) : lawW (lawP E b0 Ls xs) d mc ms lawQ 627 (lawL i) [] M := by
  obtain ⟨b, M1, M2, A', Q', v', h1, h2, h3⟩ := st_law h 
  refine gx_aload_n (i := 1) (n := 628) ⟨by decide +kernel, rfl⟩ rfl ?_
  refine gw_callV (vs := []) (n := 631) kmX11_law kvX11_law l_0 (by decide +kernel) (by decide +kernel) ⟨by decide +kernel, rfl⟩ klL_48 (ok_ax_law  M h1) rfl rfl (by omega) (Nat.le_of_ble_eq_true rfl) rfl rfl ?_
  refine gx_aload_n (i := 2) (n := 632) ⟨by decide +kernel, rfl⟩ rfl ?_
  refine gw_callV (vs := []) (n := 635) kmX12_law kvX12_law l_66 (by decide +kernel) (by decide +kernel) ⟨by decide +kernel, rfl⟩ klL_52 (ok_mo_law  M1 h2) rfl rfl (by omega) (Nat.le_of_ble_eq_true rfl) rfl rfl ?_
  exact gx_icmp_eq (n := 638) (t := 1900) (off := 1265) ⟨by decide +kernel, rfl, by decide⟩ (fun _ => K A' Q' v' M2 h3) (fun z => absurd rfl z)
set_option maxRecDepth 100000 in
set_option maxHeartbeats 2000000 in
theorem lc_11 (h : INV n A Q v M) (hi : 8 * i + 8 ≤ Ls) (hL : Ls ≤ 4096) (hd : 100 ≤ d) (K : ∀ (A : sA) (Q : sQ) (v : Nat → Nat) (M2 : dM), INV n A Q v M2 → lawW (lawP E b0 Ls xs) d mc ms lawQ 1900 (lawL i) [] M2) : lawW (lawP E b0 Ls xs) d mc ms lawQ 868 (lawL i) [] M := by
  obtain ⟨b, M1, M2, A', Q', v', h1, h2, h3⟩ := st_odds h (xs (8 * i + 1)) (xs (8 * i + 2)) (xs (8 * i + 3))
  refine gx_aload_n (i := 1) (n := 869) ⟨by decide +kernel, rfl⟩ rfl ?_
  refine lx_arg (i := i) 1 (by omega) hL (by decide +kernel) (by decide +kernel) (by decide +kernel) rfl (by decide +kernel) (by decide +kernel) rfl rfl ?_
  refine lx_arg (i := i) 2 (by omega) hL (by decide +kernel) (by decide +kernel) (by decide +kernel) rfl (by decide +kernel) (by decide +kernel) rfl rfl ?_
  refine lx_arg (i := i) 3 (by omega) hL (by decide +kernel) (by decide +kernel) (by decide +kernel) rfl (by decide +kernel) (by decide +kernel) rfl rfl ?_
  refine gw_callV (vs := [.int (xs (8 * i + 1)), .int (xs (8 * i + 2)), .int (xs (8 * i + 3))]) (n := 890) kmX11_odds kvX11_odds l_0 (by decide +kernel) (by decide +kernel) ⟨by decide +kernel, rfl⟩ klL_80 (ok_ax_odds (xs (8 * i + 1)) (xs (8 * i + 2)) (xs (8 * i + 3)) M h1) rfl rfl (by omega) (Nat.le_of_ble_eq_true rfl) rfl rfl ?_
  refine gx_aload_n (i := 2) (n := 891) ⟨by decide +kernel, rfl⟩ rfl ?_
  refine lx_arg (i := i) 1 (by omega) hL (by decide +kernel) (by decide +kernel) (by decide +kernel) rfl (by decide +kernel) (by decide +kernel) rfl rfl ?_
  refine lx_arg (i := i) 2 (by omega) hL (by decide +kernel) (by decide +kernel) (by decide +kernel) rfl (by decide +kernel) (by decide +kernel) rfl rfl ?_
  refine lx_arg (i := i) 3 (by omega) hL (by decide +kernel) (by decide +kernel) (by decide +kernel) rfl (by decide +kernel) (by decide +kernel) rfl rfl ?_
  refine gw_callV (vs := [.int (xs (8 * i + 1)), .int (xs (8 * i + 2)), .int (xs (8 * i + 3))]) (n := 912) kmX12_odds kvX12_odds l_66 (by decide +kernel) (by decide +kernel) ⟨by decide +kernel, rfl⟩ klL_84 (ok_mo_odds (xs (8 * i + 1)) (xs (8 * i + 2)) (xs (8 * i + 3)) M1 h2) rfl rfl (by omega) (Nat.le_of_ble_eq_true rfl) rfl rfl ?_
  refine gx_lcmp (n := 913) ⟨by decide +kernel, rfl⟩ ?_
  exact gx_if_eq (n := 916) (t := 1900) (off := 987) ⟨by decide +kernel, rfl, by decide⟩ (fun _ => K A' Q' v' M2 h3) (fun z => absurd ((lc_eq b b).mpr rfl) z)
set_option maxRecDepth 100000 in
set_option maxHeartbeats 2000000 in
theorem lc_12 (h : INV n A Q v M) (hi : 8 * i + 8 ≤ Ls) (hL : Ls ≤ 4096) (hd : 100 ≤ d) (K : ∀ (A : sA) (Q : sQ) (v : Nat → Nat) (M2 : dM), INV n A Q v M2 → lawW (lawP E b0 Ls xs) d mc ms lawQ 1900 (lawL i) [] M2) : lawW (lawP E b0 Ls xs) d mc ms lawQ 918 (lawL i) [] M := by
  obtain ⟨b, M2, A', Q', v', h1, h2, h3⟩ := st_luck h (xs (8 * i + 1)) (xs (8 * i + 2)) (xs (8 * i + 3)) (xs (8 * i + 4)) (xs (8 * i + 5))
  refine gx_aload_n (i := 1) (n := 919) ⟨by decide +kernel, rfl⟩ rfl ?_
  refine lx_arg (i := i) 1 (by omega) hL (by decide +kernel) (by decide +kernel) (by decide +kernel) rfl (by decide +kernel) (by decide +kernel) rfl rfl ?_
  refine lx_arg (i := i) 2 (by omega) hL (by decide +kernel) (by decide +kernel) (by decide +kernel) rfl (by decide +kernel) (by decide +kernel) rfl rfl ?_
  refine lx_arg (i := i) 3 (by omega) hL (by decide +kernel) (by decide +kernel) (by decide +kernel) rfl (by decide +kernel) (by decide +kernel) rfl rfl ?_
  refine lx_arg (i := i) 4 (by omega) hL (by decide +kernel) (by decide +kernel) (by decide +kernel) rfl (by decide +kernel) (by decide +kernel) rfl rfl ?_
  refine lx_arg (i := i) 5 (by omega) hL (by decide +kernel) (by decide +kernel) (by decide +kernel) rfl (by decide +kernel) (by decide +kernel) rfl rfl ?_
  refine gw_callV (vs := [.int (xs (8 * i + 1)), .int (xs (8 * i + 2)), .int (xs (8 * i + 3)), .int (xs (8 * i + 4)), .int (xs (8 * i + 5))]) (n := 952) kmX11_luck kvX11_luck l_0 (by decide +kernel) (by decide +kernel) ⟨by decide +kernel, rfl⟩ klL_85 (ok_ax_luck (xs (8 * i + 1)) (xs (8 * i + 2)) (xs (8 * i + 3)) (xs (8 * i + 4)) (xs (8 * i + 5)) M h1) rfl rfl (by omega) (Nat.le_of_ble_eq_true rfl) rfl rfl ?_
  refine gx_aload_n (i := 2) (n := 953) ⟨by decide +kernel, rfl⟩ rfl ?_
  refine lx_arg (i := i) 1 (by omega) hL (by decide +kernel) (by decide +kernel) (by decide +kernel) rfl (by decide +kernel) (by decide +kernel) rfl rfl ?_
  refine lx_arg (i := i) 2 (by omega) hL (by decide +kernel) (by decide +kernel) (by decide +kernel) rfl (by decide +kernel) (by decide +kernel) rfl rfl ?_
  refine lx_arg (i := i) 3 (by omega) hL (by decide +kernel) (by decide +kernel) (by decide +kernel) rfl (by decide +kernel) (by decide +kernel) rfl rfl ?_
  refine lx_arg (i := i) 4 (by omega) hL (by decide +kernel) (by decide +kernel) (by decide +kernel) rfl (by decide +kernel) (by decide +kernel) rfl rfl ?_
  refine lx_arg (i := i) 5 (by omega) hL (by decide +kernel) (by decide +kernel) (by decide +kernel) rfl (by decide +kernel) (by decide +kernel) rfl rfl ?_
  refine gw_callV (vs := [.int (xs (8 * i + 1)), .int (xs (8 * i + 2)), .int (xs (8 * i + 3)), .int (xs (8 * i + 4)), .int (xs (8 * i + 5))]) (n := 986) kmX12_luck kvX12_luck l_66 (by decide +kernel) (by decide +kernel) ⟨by decide +kernel, rfl⟩ klL_89 (ok_mo_luck (xs (8 * i + 1)) (xs (8 * i + 2)) (xs (8 * i + 3)) (xs (8 * i + 4)) (xs (8 * i + 5)) M h2) rfl rfl (by omega) (Nat.le_of_ble_eq_true rfl) rfl rfl ?_
  refine gx_lcmp (n := 987) ⟨by decide +kernel, rfl⟩ ?_
  exact gx_if_eq (n := 990) (t := 1900) (off := 913) ⟨by decide +kernel, rfl, by decide⟩ (fun _ => K A' Q' v' M2 h3) (fun z => absurd ((lc_eq b b).mpr rfl) z)
set_option maxRecDepth 100000 in
set_option maxHeartbeats 2000000 in
theorem lc_19 (h : INV n A Q v M) (hi : 8 * i + 8 ≤ Ls) (hL : Ls ≤ 4096) (hd : 100 ≤ d) (K : ∀ (A : sA) (Q : sQ) (v : Nat → Nat) (M2 : dM), INV n A Q v M2 → lawW (lawP E b0 Ls xs) d mc ms lawQ 1900 (lawL i) [] M2) : lawW (lawP E b0 Ls xs) d mc ms lawQ 1222 (lawL i) [] M := by
  obtain ⟨b, M2, A', Q', v', h1, h2, h3⟩ := st_standing h (xs (8 * i + 1))
  refine gx_aload_n (i := 1) (n := 1223) ⟨by decide +kernel, rfl⟩ rfl ?_
  refine lx_arg (i := i) 1 (by omega) hL (by decide +kernel) (by decide +kernel) (by decide +kernel) rfl (by decide +kernel) (by decide +kernel) rfl rfl ?_
  refine gw_callV (vs := [.int (xs (8 * i + 1))]) (n := 1232) kmX11_standing kvX11_standing l_0 (by decide +kernel) (by decide +kernel) ⟨by decide +kernel, rfl⟩ klL_115 (ok_ax_standing (xs (8 * i + 1)) M h1) rfl rfl (by omega) (Nat.le_of_ble_eq_true rfl) rfl rfl ?_
  refine gx_aload_n (i := 2) (n := 1233) ⟨by decide +kernel, rfl⟩ rfl ?_
  refine lx_arg (i := i) 1 (by omega) hL (by decide +kernel) (by decide +kernel) (by decide +kernel) rfl (by decide +kernel) (by decide +kernel) rfl rfl ?_
  refine gw_callV (vs := [.int (xs (8 * i + 1))]) (n := 1242) kmX12_standing kvX12_standing l_66 (by decide +kernel) (by decide +kernel) ⟨by decide +kernel, rfl⟩ klL_118 (ok_mo_standing (xs (8 * i + 1)) M h2) rfl rfl (by omega) (Nat.le_of_ble_eq_true rfl) rfl rfl ?_
  exact gx_icmp_eq (n := 1245) (t := 1900) (off := 658) ⟨by decide +kernel, rfl, by decide⟩ (fun _ => K A' Q' v' M2 h3) (fun z => absurd rfl z)
set_option maxRecDepth 100000 in
set_option maxHeartbeats 2000000 in
theorem lc_29 (hn : n < 2147483647) (h : INV n A Q v M) (hi : 8 * i + 8 ≤ Ls) (hL : Ls ≤ 4096) (hd : 100 ≤ d) (K : ∀ (A : sA) (Q : sQ) (v : Nat → Nat) (M2 : dM), INV (n + 1) A Q v M2 → lawW (lawP E b0 Ls xs) d mc ms lawQ 1900 (lawL i) [] M2) : lawW (lawP E b0 Ls xs) d mc ms lawQ 1484 (lawL i) [] M := by
  by_cases c0 : xs (8 * i + 2) = 0
  · obtain ⟨b, M1, M2, A', Q', v', h1, h2, h3⟩ := st_mark h hn (xs (8 * i + 1)) (bk := nI 0) (Or.inl rfl)
    refine gx_aload_n (i := 1) (n := 1485) ⟨by decide +kernel, rfl⟩ rfl ?_
    refine lx_arg (i := i) 1 (by omega) hL (by decide +kernel) (by decide +kernel) (by decide +kernel) rfl (by decide +kernel) (by decide +kernel) rfl rfl ?_
    refine lx_arg (i := i) 2 (by omega) hL (by decide +kernel) (by decide +kernel) (by decide +kernel) rfl (by decide +kernel) (by decide +kernel) rfl rfl ?_
    refine gx_if_eq (n := 1500) (t := 1504) (off := 7) ⟨by decide +kernel, rfl, by decide⟩ (fun _ => ?_) (fun z => absurd c0 z)
    refine gx_iconst (i := 0) (v := nI 0) (n := 1505) ⟨by decide +kernel, rfl⟩ (by decide) ?_
    refine gw_callV (vs := [.int (xs (8 * i + 1)), .int (nI 0)]) (n := 1508) kmX11_mark kvX11_mark l_0 (by decide +kernel) (by decide +kernel) ⟨by decide +kernel, rfl⟩ klL_156 (ok_ax_mark (xs (8 * i + 1)) (nI 0) M h1) rfl rfl (by omega) (Nat.le_of_ble_eq_true rfl) rfl rfl ?_
    refine gx_aload_n (i := 2) (n := 1509) ⟨by decide +kernel, rfl⟩ rfl ?_
    refine lx_arg (i := i) 1 (by omega) hL (by decide +kernel) (by decide +kernel) (by decide +kernel) rfl (by decide +kernel) (by decide +kernel) rfl rfl ?_
    refine lx_arg (i := i) 2 (by omega) hL (by decide +kernel) (by decide +kernel) (by decide +kernel) rfl (by decide +kernel) (by decide +kernel) rfl rfl ?_
    refine gx_if_eq (n := 1524) (t := 1528) (off := 7) ⟨by decide +kernel, rfl, by decide⟩ (fun _ => ?_) (fun z => absurd c0 z)
    refine gx_iconst (i := 0) (v := nI 0) (n := 1529) ⟨by decide +kernel, rfl⟩ (by decide) ?_
    refine gw_callV (vs := [.int (xs (8 * i + 1)), .int (nI 0)]) (n := 1532) kmX12_mark kvX12_mark l_66 (by decide +kernel) (by decide +kernel) ⟨by decide +kernel, rfl⟩ klL_160 (ok_mo_mark (xs (8 * i + 1)) (nI 0) M1 h2) rfl rfl (by omega) (Nat.le_of_ble_eq_true rfl) rfl rfl ?_
    exact gx_icmp_eq (n := 1535) (t := 1900) (off := 368) ⟨by decide +kernel, rfl, by decide⟩ (fun _ => K A' Q' v' M2 h3) (fun z => absurd rfl z)
  · obtain ⟨b, M1, M2, A', Q', v', h1, h2, h3⟩ := st_mark h hn (xs (8 * i + 1)) (bk := nI 1) (Or.inr rfl)
    refine gx_aload_n (i := 1) (n := 1485) ⟨by decide +kernel, rfl⟩ rfl ?_
    refine lx_arg (i := i) 1 (by omega) hL (by decide +kernel) (by decide +kernel) (by decide +kernel) rfl (by decide +kernel) (by decide +kernel) rfl rfl ?_
    refine lx_arg (i := i) 2 (by omega) hL (by decide +kernel) (by decide +kernel) (by decide +kernel) rfl (by decide +kernel) (by decide +kernel) rfl rfl ?_
    refine gx_if_eq (n := 1500) (t := 1504) (off := 7) ⟨by decide +kernel, rfl, by decide⟩ (fun z => absurd z c0) (fun _ => ?_)
    refine gx_iconst (i := 1) (v := nI 1) (n := 1501) ⟨by decide +kernel, rfl⟩ (by decide) ?_
    refine gx_goto (t := 1505) (off := 4) ⟨by decide +kernel, rfl, by decide⟩ ?_
    refine gw_callV (vs := [.int (xs (8 * i + 1)), .int (nI 1)]) (n := 1508) kmX11_mark kvX11_mark l_0 (by decide +kernel) (by decide +kernel) ⟨by decide +kernel, rfl⟩ klL_156 (ok_ax_mark (xs (8 * i + 1)) (nI 1) M h1) rfl rfl (by omega) (Nat.le_of_ble_eq_true rfl) rfl rfl ?_
    refine gx_aload_n (i := 2) (n := 1509) ⟨by decide +kernel, rfl⟩ rfl ?_
    refine lx_arg (i := i) 1 (by omega) hL (by decide +kernel) (by decide +kernel) (by decide +kernel) rfl (by decide +kernel) (by decide +kernel) rfl rfl ?_
    refine lx_arg (i := i) 2 (by omega) hL (by decide +kernel) (by decide +kernel) (by decide +kernel) rfl (by decide +kernel) (by decide +kernel) rfl rfl ?_
    refine gx_if_eq (n := 1524) (t := 1528) (off := 7) ⟨by decide +kernel, rfl, by decide⟩ (fun z => absurd z c0) (fun _ => ?_)
    refine gx_iconst (i := 1) (v := nI 1) (n := 1525) ⟨by decide +kernel, rfl⟩ (by decide) ?_
    refine gx_goto (t := 1529) (off := 4) ⟨by decide +kernel, rfl, by decide⟩ ?_
    refine gw_callV (vs := [.int (xs (8 * i + 1)), .int (nI 1)]) (n := 1532) kmX12_mark kvX12_mark l_66 (by decide +kernel) (by decide +kernel) ⟨by decide +kernel, rfl⟩ klL_160 (ok_mo_mark (xs (8 * i + 1)) (nI 1) M1 h2) rfl rfl (by omega) (Nat.le_of_ble_eq_true rfl) rfl rfl ?_
    exact gx_icmp_eq (n := 1535) (t := 1900) (off := 368) ⟨by decide +kernel, rfl, by decide⟩ (fun _ => K A' Q' v' M2 h3) (fun z => absurd rfl z)
end LAWC
