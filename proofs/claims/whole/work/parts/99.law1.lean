/-! ===== the law: its cases (made by genlaw.py) ===== -/
section LAWC
variable {E : gz_C} {b0 Ls : Nat} {xs : Nat → Int32} {d mc ms n i : Nat} {A : sA} {Q : sQ} {v : Nat → Nat} {M : dM}
set_option maxRecDepth 100000 in
set_option maxHeartbeats 2000000 in
theorem lc_0 (h : INV n A Q v M) (hi : 8 * i + 8 ≤ Ls) (hL : Ls ≤ 4096) (hd : 100 ≤ d) (K : ∀ (A : sA) (Q : sQ) (v : Nat → Nat) (M2 : dM), INV n A Q v M2 → lawW (lawP E b0 Ls xs) d mc ms lawQ 1900 (lawL i) [] M2) : lawW (lawP E b0 Ls xs) d mc ms lawQ 208 (lawL i) [] M := by
  obtain ⟨b, M1, M2, A', Q', v', h1, h2, h3⟩ := st_layer h (xs (8 * i + 1)) (xs (8 * i + 2)) (xs (8 * i + 3))
  refine gx_aload_n (i := 1) (n := 209) ⟨by decide +kernel, rfl⟩ rfl ?_
  refine lx_arg (i := i) 1 (by omega) hL (by decide +kernel) (by decide +kernel) (by decide +kernel) rfl (by decide +kernel) (by decide +kernel) rfl rfl ?_
  refine lx_arg (i := i) 2 (by omega) hL (by decide +kernel) (by decide +kernel) (by decide +kernel) rfl (by decide +kernel) (by decide +kernel) rfl rfl ?_
  refine lx_arg (i := i) 3 (by omega) hL (by decide +kernel) (by decide +kernel) (by decide +kernel) rfl (by decide +kernel) (by decide +kernel) rfl rfl ?_
  refine gw_callV (vs := [.int (xs (8 * i + 1)), .int (xs (8 * i + 2)), .int (xs (8 * i + 3))]) (n := 230) kmX11_layer kvX11_layer l_0 (by decide +kernel) (by decide +kernel) ⟨by decide +kernel, rfl⟩ klL_22 (ok_ax_layer (xs (8 * i + 1)) (xs (8 * i + 2)) (xs (8 * i + 3)) M h1) rfl rfl (by omega) (Nat.le_of_ble_eq_true rfl) rfl rfl ?_
  refine gx_aload_n (i := 2) (n := 231) ⟨by decide +kernel, rfl⟩ rfl ?_
  refine lx_arg (i := i) 1 (by omega) hL (by decide +kernel) (by decide +kernel) (by decide +kernel) rfl (by decide +kernel) (by decide +kernel) rfl rfl ?_
  refine lx_arg (i := i) 2 (by omega) hL (by decide +kernel) (by decide +kernel) (by decide +kernel) rfl (by decide +kernel) (by decide +kernel) rfl rfl ?_
  refine lx_arg (i := i) 3 (by omega) hL (by decide +kernel) (by decide +kernel) (by decide +kernel) rfl (by decide +kernel) (by decide +kernel) rfl rfl ?_
  refine gw_callV (vs := [.int (xs (8 * i + 1)), .int (xs (8 * i + 2)), .int (xs (8 * i + 3))]) (n := 252) kmX12_layer kvX12_layer l_66 (by decide +kernel) (by decide +kernel) ⟨by decide +kernel, rfl⟩ klL_26 (ok_mo_layer (xs (8 * i + 1)) (xs (8 * i + 2)) (xs (8 * i + 3)) M1 h2) rfl rfl (by omega) (Nat.le_of_ble_eq_true rfl) rfl rfl ?_
  exact gx_icmp_eq (n := 255) (t := 1900) (off := 1648) ⟨by decide +kernel, rfl, by decide⟩ (fun _ => K A' Q' v' M2 h3) (fun z => absurd rfl z)
set_option maxRecDepth 100000 in
set_option maxHeartbeats 2000000 in
theorem lc_1 (h : INV n A Q v M) (hi : 8 * i + 8 ≤ Ls) (hL : Ls ≤ 4096) (hd : 100 ≤ d) (K : ∀ (A : sA) (Q : sQ) (v : Nat → Nat) (M2 : dM), INV n A Q v M2 → lawW (lawP E b0 Ls xs) d mc ms lawQ 1900 (lawL i) [] M2) : lawW (lawP E b0 Ls xs) d mc ms lawQ 257 (lawL i) [] M := by
  obtain ⟨b, M1, M2, A', Q', v', h1, h2, h3⟩ := st_way h (xs (8 * i + 1)) (xs (8 * i + 2)) (xs (8 * i + 3))
  refine gx_aload_n (i := 1) (n := 258) ⟨by decide +kernel, rfl⟩ rfl ?_
  refine lx_arg (i := i) 1 (by omega) hL (by decide +kernel) (by decide +kernel) (by decide +kernel) rfl (by decide +kernel) (by decide +kernel) rfl rfl ?_
  refine lx_arg (i := i) 2 (by omega) hL (by decide +kernel) (by decide +kernel) (by decide +kernel) rfl (by decide +kernel) (by decide +kernel) rfl rfl ?_
  refine lx_arg (i := i) 3 (by omega) hL (by decide +kernel) (by decide +kernel) (by decide +kernel) rfl (by decide +kernel) (by decide +kernel) rfl rfl ?_
  refine gw_callV (vs := [.int (xs (8 * i + 1)), .int (xs (8 * i + 2)), .int (xs (8 * i + 3))]) (n := 279) kmX11_way kvX11_way l_0 (by decide +kernel) (by decide +kernel) ⟨by decide +kernel, rfl⟩ klL_27 (ok_ax_way (xs (8 * i + 1)) (xs (8 * i + 2)) (xs (8 * i + 3)) M h1) rfl rfl (by omega) (Nat.le_of_ble_eq_true rfl) rfl rfl ?_
  refine gx_aload_n (i := 2) (n := 280) ⟨by decide +kernel, rfl⟩ rfl ?_
  refine lx_arg (i := i) 1 (by omega) hL (by decide +kernel) (by decide +kernel) (by decide +kernel) rfl (by decide +kernel) (by decide +kernel) rfl rfl ?_
  refine lx_arg (i := i) 2 (by omega) hL (by decide +kernel) (by decide +kernel) (by decide +kernel) rfl (by decide +kernel) (by decide +kernel) rfl rfl ?_
  refine lx_arg (i := i) 3 (by omega) hL (by decide +kernel) (by decide +kernel) (by decide +kernel) rfl (by decide +kernel) (by decide +kernel) rfl rfl ?_
  refine gw_callV (vs := [.int (xs (8 * i + 1)), .int (xs (8 * i + 2)), .int (xs (8 * i + 3))]) (n := 301) kmX12_way kvX12_way l_66 (by decide +kernel) (by decide +kernel) ⟨by decide +kernel, rfl⟩ klL_30 (ok_mo_way (xs (8 * i + 1)) (xs (8 * i + 2)) (xs (8 * i + 3)) M1 h2) rfl rfl (by omega) (Nat.le_of_ble_eq_true rfl) rfl rfl ?_
  exact gx_icmp_eq (n := 304) (t := 1900) (off := 1599) ⟨by decide +kernel, rfl, by decide⟩ (fun _ => K A' Q' v' M2 h3) (fun z => absurd rfl z)
set_option maxRecDepth 100000 in
set_option maxHeartbeats 2000000 in
theorem lc_2 (h : INV n A Q v M) (hi : 8 * i + 8 ≤ Ls) (hL : Ls ≤ 4096) (hd : 100 ≤ d) (K : ∀ (A : sA) (Q : sQ) (v : Nat → Nat) (M2 : dM), INV n A Q v M2 → lawW (lawP E b0 Ls xs) d mc ms lawQ 1900 (lawL i) [] M2) : lawW (lawP E b0 Ls xs) d mc ms lawQ 306 (lawL i) [] M := by
  obtain ⟨b, M1, M2, A', Q', v', h1, h2, h3⟩ := st_here h (xs (8 * i + 1)) (xs (8 * i + 2)) (xs (8 * i + 3)) (xs (8 * i + 4)) (xs (8 * i + 5))
  refine gx_aload_n (i := 1) (n := 307) ⟨by decide +kernel, rfl⟩ rfl ?_
  refine lx_arg (i := i) 1 (by omega) hL (by decide +kernel) (by decide +kernel) (by decide +kernel) rfl (by decide +kernel) (by decide +kernel) rfl rfl ?_
  refine lx_arg (i := i) 2 (by omega) hL (by decide +kernel) (by decide +kernel) (by decide +kernel) rfl (by decide +kernel) (by decide +kernel) rfl rfl ?_
  refine lx_arg (i := i) 3 (by omega) hL (by decide +kernel) (by decide +kernel) (by decide +kernel) rfl (by decide +kernel) (by decide +kernel) rfl rfl ?_
  refine lx_arg (i := i) 4 (by omega) hL (by decide +kernel) (by decide +kernel) (by decide +kernel) rfl (by decide +kernel) (by decide +kernel) rfl rfl ?_
  refine lx_arg (i := i) 5 (by omega) hL (by decide +kernel) (by decide +kernel) (by decide +kernel) rfl (by decide +kernel) (by decide +kernel) rfl rfl ?_
  refine gw_callV (vs := [.int (xs (8 * i + 1)), .int (xs (8 * i + 2)), .int (xs (8 * i + 3)), .int (xs (8 * i + 4)), .int (xs (8 * i + 5))]) (n := 340) kmX11_here kvX11_here l_0 (by decide +kernel) (by decide +kernel) ⟨by decide +kernel, rfl⟩ klL_31 (ok_ax_here (xs (8 * i + 1)) (xs (8 * i + 2)) (xs (8 * i + 3)) (xs (8 * i + 4)) (xs (8 * i + 5)) M h1) rfl rfl (by omega) (Nat.le_of_ble_eq_true rfl) rfl rfl ?_
  refine gx_aload_n (i := 2) (n := 341) ⟨by decide +kernel, rfl⟩ rfl ?_
  refine lx_arg (i := i) 1 (by omega) hL (by decide +kernel) (by decide +kernel) (by decide +kernel) rfl (by decide +kernel) (by decide +kernel) rfl rfl ?_
  refine lx_arg (i := i) 2 (by omega) hL (by decide +kernel) (by decide +kernel) (by decide +kernel) rfl (by decide +kernel) (by decide +kernel) rfl rfl ?_
  refine lx_arg (i := i) 3 (by omega) hL (by decide +kernel) (by decide +kernel) (by decide +kernel) rfl (by decide +kernel) (by decide +kernel) rfl rfl ?_
  refine lx_arg (i := i) 4 (by omega) hL (by decide +kernel) (by decide +kernel) (by decide +kernel) rfl (by decide +kernel) (by decide +kernel) rfl rfl ?_
  refine lx_arg (i := i) 5 (by omega) hL (by decide +kernel) (by decide +kernel) (by decide +kernel) rfl (by decide +kernel) (by decide +kernel) rfl rfl ?_
  refine gw_callV (vs := [.int (xs (8 * i + 1)), .int (xs (8 * i + 2)), .int (xs (8 * i + 3)), .int (xs (8 * i + 4)), .int (xs (8 * i + 5))]) (n := 374) kmX12_here kvX12_here l_66 (by decide +kernel) (by decide +kernel) ⟨by decide +kernel, rfl⟩ klL_35 (ok_mo_here (xs (8 * i + 1)) (xs (8 * i + 2)) (xs (8 * i + 3)) (xs (8 * i + 4)) (xs (8 * i + 5)) M1 h2) rfl rfl (by omega) (Nat.le_of_ble_eq_true rfl) rfl rfl ?_
  exact gx_icmp_eq (n := 377) (t := 1900) (off := 1526) ⟨by decide +kernel, rfl, by decide⟩ (fun _ => K A' Q' v' M2 h3) (fun z => absurd rfl z)
set_option maxRecDepth 100000 in
set_option maxHeartbeats 2000000 in
theorem lc_3 (h : INV n A Q v M) (hi : 8 * i + 8 ≤ Ls) (hL : Ls ≤ 4096) (hd : 100 ≤ d) (K : ∀ (A : sA) (Q : sQ) (v : Nat → Nat) (M2 : dM), INV n A Q v M2 → lawW (lawP E b0 Ls xs) d mc ms lawQ 1900 (lawL i) [] M2) : lawW (lawP E b0 Ls xs) d mc ms lawQ 379 (lawL i) [] M := by
  obtain ⟨b, M1, M2, A', Q', v', h1, h2, h3⟩ := st_find h (xs (8 * i + 1)) (xs (8 * i + 2)) (xs (8 * i + 3)) (xs (8 * i + 4)) (xs (8 * i + 5)) (xs (8 * i + 6)) (xs (8 * i + 7))
  refine gx_aload_n (i := 1) (n := 380) ⟨by decide +kernel, rfl⟩ rfl ?_
  refine lx_arg (i := i) 1 (by omega) hL (by decide +kernel) (by decide +kernel) (by decide +kernel) rfl (by decide +kernel) (by decide +kernel) rfl rfl ?_
  refine lx_arg (i := i) 2 (by omega) hL (by decide +kernel) (by decide +kernel) (by decide +kernel) rfl (by decide +kernel) (by decide +kernel) rfl rfl ?_
  refine lx_arg (i := i) 3 (by omega) hL (by decide +kernel) (by decide +kernel) (by decide +kernel) rfl (by decide +kernel) (by decide +kernel) rfl rfl ?_
  refine lx_arg (i := i) 4 (by omega) hL (by decide +kernel) (by decide +kernel) (by decide +kernel) rfl (by decide +kernel) (by decide +kernel) rfl rfl ?_
  refine lx_arg (i := i) 5 (by omega) hL (by decide +kernel) (by decide +kernel) (by decide +kernel) rfl (by decide +kernel) (by decide +kernel) rfl rfl ?_
  refine lx_argB (i := i) 6 (by omega) hL (by decide +kernel) (by decide +kernel) (by decide +kernel) rfl (by decide +kernel) (by decide +kernel) rfl rfl ?_
  refine lx_argB (i := i) 7 (by omega) hL (by decide +kernel) (by decide +kernel) (by decide +kernel) rfl (by decide +kernel) (by decide +kernel) rfl rfl ?_
  refine gw_callV (vs := [.int (xs (8 * i + 1)), .int (xs (8 * i + 2)), .int (xs (8 * i + 3)), .int (xs (8 * i + 4)), .int (xs (8 * i + 5)), .int (xs (8 * i + 6)), .int (xs (8 * i + 7))]) (n := 427) kmX11_find kvX11_find l_0 (by decide +kernel) (by decide +kernel) ⟨by decide +kernel, rfl⟩ klL_36 (ok_ax_find (xs (8 * i + 1)) (xs (8 * i + 2)) (xs (8 * i + 3)) (xs (8 * i + 4)) (xs (8 * i + 5)) (xs (8 * i + 6)) (xs (8 * i + 7)) M h1) rfl rfl (by omega) (Nat.le_of_ble_eq_true rfl) rfl rfl ?_
  refine gx_aload_n (i := 2) (n := 428) ⟨by decide +kernel, rfl⟩ rfl ?_
  refine lx_arg (i := i) 1 (by omega) hL (by decide +kernel) (by decide +kernel) (by decide +kernel) rfl (by decide +kernel) (by decide +kernel) rfl rfl ?_
  refine lx_arg (i := i) 2 (by omega) hL (by decide +kernel) (by decide +kernel) (by decide +kernel) rfl (by decide +kernel) (by decide +kernel) rfl rfl ?_
  refine lx_arg (i := i) 3 (by omega) hL (by decide +kernel) (by decide +kernel) (by decide +kernel) rfl (by decide +kernel) (by decide +kernel) rfl rfl ?_
  refine lx_arg (i := i) 4 (by omega) hL (by decide +kernel) (by decide +kernel) (by decide +kernel) rfl (by decide +kernel) (by decide +kernel) rfl rfl ?_
  refine lx_arg (i := i) 5 (by omega) hL (by decide +kernel) (by decide +kernel) (by decide +kernel) rfl (by decide +kernel) (by decide +kernel) rfl rfl ?_
  refine lx_argB (i := i) 6 (by omega) hL (by decide +kernel) (by decide +kernel) (by decide +kernel) rfl (by decide +kernel) (by decide +kernel) rfl rfl ?_
  refine lx_argB (i := i) 7 (by omega) hL (by decide +kernel) (by decide +kernel) (by decide +kernel) rfl (by decide +kernel) (by decide +kernel) rfl rfl ?_
  refine gw_callV (vs := [.int (xs (8 * i + 1)), .int (xs (8 * i + 2)), .int (xs (8 * i + 3)), .int (xs (8 * i + 4)), .int (xs (8 * i + 5)), .int (xs (8 * i + 6)), .int (xs (8 * i + 7))]) (n := 475) kmX12_find kvX12_find l_66 (by decide +kernel) (by decide +kernel) ⟨by decide +kernel, rfl⟩ klL_40 (ok_mo_find (xs (8 * i + 1)) (xs (8 * i + 2)) (xs (8 * i + 3)) (xs (8 * i + 4)) (xs (8 * i + 5)) (xs (8 * i + 6)) (xs (8 * i + 7)) M1 h2) rfl rfl (by omega) (Nat.le_of_ble_eq_true rfl) rfl rfl ?_
  exact gx_icmp_eq (n := 478) (t := 1900) (off := 1425) ⟨by decide +kernel, rfl, by decide⟩ (fun _ => K A' Q' v' M2 h3) (fun z => absurd rfl z)
set_option maxRecDepth 100000 in
set_option maxHeartbeats 2000000 in
theorem lc_4 (h : INV n A Q v M) (hi : 8 * i + 8 ≤ Ls) (hL : Ls ≤ 4096) (hd : 100 ≤ d) (K : ∀ (A : sA) (Q : sQ) (v : Nat → Nat) (M2 : dM), INV n A Q v M2 → lawW (lawP E b0 Ls xs) d mc ms lawQ 1900 (lawL i) [] M2) : lawW (lawP E b0 Ls xs) d mc ms lawQ 480 (lawL i) [] M := by
  obtain ⟨b, M1, M2, A', Q', v', h1, h2, h3⟩ := st_feed h (((xs (8 * i + 1)).toInt64 <<< ((32 : Int32).toInt64 &&& 63)) ||| ((xs (8 * i + 2)).toInt64 &&& (4294967295 : Int64))) (((xs (8 * i + 3)).toInt64 <<< ((32 : Int32).toInt64 &&& 63)) ||| ((xs (8 * i + 4)).toInt64 &&& (4294967295 : Int64))) (((xs (8 * i + 5)).toInt64 <<< ((32 : Int32).toInt64 &&& 63)) ||| ((xs (8 * i + 6)).toInt64 &&& (4294967295 : Int64)))
  refine gx_aload_n (i := 1) (n := 481) ⟨by decide +kernel, rfl⟩ rfl ?_
  refine lx_arg (i := i) 1 (by omega) hL (by decide +kernel) (by decide +kernel) (by decide +kernel) rfl (by decide +kernel) (by decide +kernel) rfl rfl ?_
  refine gx_i2l (n := 488) ⟨by decide +kernel, rfl⟩ ?_
  refine gx_bipush (i := 32) (v := 32) (n := 490) ⟨by decide +kernel, rfl⟩ (by decide) ?_
  refine gx_lshl (n := 491) ⟨by decide +kernel, rfl⟩ ?_
  refine lx_arg (i := i) 2 (by omega) hL (by decide +kernel) (by decide +kernel) (by decide +kernel) rfl (by decide +kernel) (by decide +kernel) rfl rfl ?_
  refine gx_i2l (n := 498) ⟨by decide +kernel, rfl⟩ ?_
  refine gx_ldc2 (i := 41) (v := 4294967295) (n := 501) ⟨by decide +kernel, rfl⟩ (mz_in 2220 (by decide +kernel) (by decide +kernel)) ?_
  refine gx_land (n := 502) ⟨by decide +kernel, rfl⟩ ?_
  refine gx_lor (n := 503) ⟨by decide +kernel, rfl⟩ ?_
  refine lx_arg (i := i) 3 (by omega) hL (by decide +kernel) (by decide +kernel) (by decide +kernel) rfl (by decide +kernel) (by decide +kernel) rfl rfl ?_
  refine gx_i2l (n := 510) ⟨by decide +kernel, rfl⟩ ?_
  refine gx_bipush (i := 32) (v := 32) (n := 512) ⟨by decide +kernel, rfl⟩ (by decide) ?_
  refine gx_lshl (n := 513) ⟨by decide +kernel, rfl⟩ ?_
  refine lx_arg (i := i) 4 (by omega) hL (by decide +kernel) (by decide +kernel) (by decide +kernel) rfl (by decide +kernel) (by decide +kernel) rfl rfl ?_
  refine gx_i2l (n := 520) ⟨by decide +kernel, rfl⟩ ?_
  refine gx_ldc2 (i := 41) (v := 4294967295) (n := 523) ⟨by decide +kernel, rfl⟩ (mz_in 2220 (by decide +kernel) (by decide +kernel)) ?_
  refine gx_land (n := 524) ⟨by decide +kernel, rfl⟩ ?_
  refine gx_lor (n := 525) ⟨by decide +kernel, rfl⟩ ?_
  refine lx_arg (i := i) 5 (by omega) hL (by decide +kernel) (by decide +kernel) (by decide +kernel) rfl (by decide +kernel) (by decide +kernel) rfl rfl ?_
  refine gx_i2l (n := 532) ⟨by decide +kernel, rfl⟩ ?_
  refine gx_bipush (i := 32) (v := 32) (n := 534) ⟨by decide +kernel, rfl⟩ (by decide) ?_
  refine gx_lshl (n := 535) ⟨by decide +kernel, rfl⟩ ?_
  refine lx_argB (i := i) 6 (by omega) hL (by decide +kernel) (by decide +kernel) (by decide +kernel) rfl (by decide +kernel) (by decide +kernel) rfl rfl ?_
  refine gx_i2l (n := 543) ⟨by decide +kernel, rfl⟩ ?_
  refine gx_ldc2 (i := 41) (v := 4294967295) (n := 546) ⟨by decide +kernel, rfl⟩ (mz_in 2220 (by decide +kernel) (by decide +kernel)) ?_
  refine gx_land (n := 547) ⟨by decide +kernel, rfl⟩ ?_
  refine gx_lor (n := 548) ⟨by decide +kernel, rfl⟩ ?_
  refine gw_callV (vs := [.long (((xs (8 * i + 1)).toInt64 <<< ((32 : Int32).toInt64 &&& 63)) ||| ((xs (8 * i + 2)).toInt64 &&& (4294967295 : Int64))), .long (((xs (8 * i + 3)).toInt64 <<< ((32 : Int32).toInt64 &&& 63)) ||| ((xs (8 * i + 4)).toInt64 &&& (4294967295 : Int64))), .long (((xs (8 * i + 5)).toInt64 <<< ((32 : Int32).toInt64 &&& 63)) ||| ((xs (8 * i + 6)).toInt64 &&& (4294967295 : Int64)))]) (n := 551) kmX11_feed kvX11_feed l_0 (by decide +kernel) (by decide +kernel) ⟨by decide +kernel, rfl⟩ klL_43 (ok_ax_feed (((xs (8 * i + 1)).toInt64 <<< ((32 : Int32).toInt64 &&& 63)) ||| ((xs (8 * i + 2)).toInt64 &&& (4294967295 : Int64))) (((xs (8 * i + 3)).toInt64 <<< ((32 : Int32).toInt64 &&& 63)) ||| ((xs (8 * i + 4)).toInt64 &&& (4294967295 : Int64))) (((xs (8 * i + 5)).toInt64 <<< ((32 : Int32).toInt64 &&& 63)) ||| ((xs (8 * i + 6)).toInt64 &&& (4294967295 : Int64))) M h1) rfl rfl (by omega) (Nat.le_of_ble_eq_true rfl) rfl rfl ?_
  refine gx_aload_n (i := 2) (n := 552) ⟨by decide +kernel, rfl⟩ rfl ?_
  refine lx_arg (i := i) 1 (by omega) hL (by decide +kernel) (by decide +kernel) (by decide +kernel) rfl (by decide +kernel) (by decide +kernel) rfl rfl ?_
  refine gx_i2l (n := 559) ⟨by decide +kernel, rfl⟩ ?_
  refine gx_bipush (i := 32) (v := 32) (n := 561) ⟨by decide +kernel, rfl⟩ (by decide) ?_
  refine gx_lshl (n := 562) ⟨by decide +kernel, rfl⟩ ?_
  refine lx_arg (i := i) 2 (by omega) hL (by decide +kernel) (by decide +kernel) (by decide +kernel) rfl (by decide +kernel) (by decide +kernel) rfl rfl ?_
  refine gx_i2l (n := 569) ⟨by decide +kernel, rfl⟩ ?_
  refine gx_ldc2 (i := 41) (v := 4294967295) (n := 572) ⟨by decide +kernel, rfl⟩ (mz_in 2220 (by decide +kernel) (by decide +kernel)) ?_
  refine gx_land (n := 573) ⟨by decide +kernel, rfl⟩ ?_
  refine gx_lor (n := 574) ⟨by decide +kernel, rfl⟩ ?_
  refine lx_arg (i := i) 3 (by omega) hL (by decide +kernel) (by decide +kernel) (by decide +kernel) rfl (by decide +kernel) (by decide +kernel) rfl rfl ?_
  refine gx_i2l (n := 581) ⟨by decide +kernel, rfl⟩ ?_
  refine gx_bipush (i := 32) (v := 32) (n := 583) ⟨by decide +kernel, rfl⟩ (by decide) ?_
  refine gx_lshl (n := 584) ⟨by decide +kernel, rfl⟩ ?_
  refine lx_arg (i := i) 4 (by omega) hL (by decide +kernel) (by decide +kernel) (by decide +kernel) rfl (by decide +kernel) (by decide +kernel) rfl rfl ?_
  refine gx_i2l (n := 591) ⟨by decide +kernel, rfl⟩ ?_
  refine gx_ldc2 (i := 41) (v := 4294967295) (n := 594) ⟨by decide +kernel, rfl⟩ (mz_in 2220 (by decide +kernel) (by decide +kernel)) ?_
  refine gx_land (n := 595) ⟨by decide +kernel, rfl⟩ ?_
  refine gx_lor (n := 596) ⟨by decide +kernel, rfl⟩ ?_
  refine lx_arg (i := i) 5 (by omega) hL (by decide +kernel) (by decide +kernel) (by decide +kernel) rfl (by decide +kernel) (by decide +kernel) rfl rfl ?_
  refine gx_i2l (n := 603) ⟨by decide +kernel, rfl⟩ ?_
  refine gx_bipush (i := 32) (v := 32) (n := 605) ⟨by decide +kernel, rfl⟩ (by decide) ?_
  refine gx_lshl (n := 606) ⟨by decide +kernel, rfl⟩ ?_
  refine lx_argB (i := i) 6 (by omega) hL (by decide +kernel) (by decide +kernel) (by decide +kernel) rfl (by decide +kernel) (by decide +kernel) rfl rfl ?_
  refine gx_i2l (n := 614) ⟨by decide +kernel, rfl⟩ ?_
  refine gx_ldc2 (i := 41) (v := 4294967295) (n := 617) ⟨by decide +kernel, rfl⟩ (mz_in 2220 (by decide +kernel) (by decide +kernel)) ?_
  refine gx_land (n := 618) ⟨by decide +kernel, rfl⟩ ?_
  refine gx_lor (n := 619) ⟨by decide +kernel, rfl⟩ ?_
  refine gw_callV (vs := [.long (((xs (8 * i + 1)).toInt64 <<< ((32 : Int32).toInt64 &&& 63)) ||| ((xs (8 * i + 2)).toInt64 &&& (4294967295 : Int64))), .long (((xs (8 * i + 3)).toInt64 <<< ((32 : Int32).toInt64 &&& 63)) ||| ((xs (8 * i + 4)).toInt64 &&& (4294967295 : Int64))), .long (((xs (8 * i + 5)).toInt64 <<< ((32 : Int32).toInt64 &&& 63)) ||| ((xs (8 * i + 6)).toInt64 &&& (4294967295 : Int64)))]) (n := 622) kmX12_feed kvX12_feed l_66 (by decide +kernel) (by decide +kernel) ⟨by decide +kernel, rfl⟩ klL_47 (ok_mo_feed (((xs (8 * i + 1)).toInt64 <<< ((32 : Int32).toInt64 &&& 63)) ||| ((xs (8 * i + 2)).toInt64 &&& (4294967295 : Int64))) (((xs (8 * i + 3)).toInt64 <<< ((32 : Int32).toInt64 &&& 63)) ||| ((xs (8 * i + 4)).toInt64 &&& (4294967295 : Int64))) (((xs (8 * i + 5)).toInt64 <<< ((32 : Int32).toInt64 &&& 63)) ||| ((xs (8 * i + 6)).toInt64 &&& (4294967295 : Int64))) M1 h2) rfl rfl (by omega) (Nat.le_of_ble_eq_true rfl) rfl rfl ?_
  exact gx_icmp_eq (n := 625) (t := 1900) (off := 1278) ⟨by decide +kernel, rfl, by decide⟩ (fun _ => K A' Q' v' M2 h3) (fun z => absurd rfl z)
set_option maxRecDepth 100000 in
set_option maxHeartbeats 2000000 in
theorem lc_5 (h : INV n A Q v M) (hi : 8 * i + 8 ≤ Ls) (hL : Ls ≤ 4096) (hd : 100 ≤ d) (K : ∀ (A : sA) (Q : sQ) (v : Nat → Nat) (M2 : dM), INV n A Q v M2 → lawW (lawP E b0 Ls xs) d mc ms lawQ 1900 (lawL i) [] M2) : lawW (lawP E b0 Ls xs) d mc ms lawQ 627 (lawL i) [] M := by
  obtain ⟨b, M1, M2, A', Q', v', h1, h2, h3⟩ := st_law h 
  refine gx_aload_n (i := 1) (n := 628) ⟨by decide +kernel, rfl⟩ rfl ?_
  refine gw_callV (vs := []) (n := 631) kmX11_law kvX11_law l_0 (by decide +kernel) (by decide +kernel) ⟨by decide +kernel, rfl⟩ klL_48 (ok_ax_law  M h1) rfl rfl (by omega) (Nat.le_of_ble_eq_true rfl) rfl rfl ?_
  refine gx_aload_n (i := 2) (n := 632) ⟨by decide +kernel, rfl⟩ rfl ?_
  refine gw_callV (vs := []) (n := 635) kmX12_law kvX12_law l_66 (by decide +kernel) (by decide +kernel) ⟨by decide +kernel, rfl⟩ klL_52 (ok_mo_law  M1 h2) rfl rfl (by omega) (Nat.le_of_ble_eq_true rfl) rfl rfl ?_
  exact gx_icmp_eq (n := 638) (t := 1900) (off := 1265) ⟨by decide +kernel, rfl, by decide⟩ (fun _ => K A' Q' v' M2 h3) (fun z => absurd rfl z)
set_option maxRecDepth 100000 in
set_option maxHeartbeats 2000000 in
theorem lc_6 (h : INV n A Q v M) (hi : 8 * i + 8 ≤ Ls) (hL : Ls ≤ 4096) (hd : 100 ≤ d) (K : ∀ (A : sA) (Q : sQ) (v : Nat → Nat) (M2 : dM), INV n A Q v M2 → lawW (lawP E b0 Ls xs) d mc ms lawQ 1900 (lawL i) [] M2) : lawW (lawP E b0 Ls xs) d mc ms lawQ 640 (lawL i) [] M := by
  obtain ⟨b, M2, A', Q', v', h1, h2, h3⟩ := st_present h (xs (8 * i + 1)) (xs (8 * i + 2)) (xs (8 * i + 3))
  refine gx_aload_n (i := 1) (n := 641) ⟨by decide +kernel, rfl⟩ rfl ?_
  refine lx_arg (i := i) 1 (by omega) hL (by decide +kernel) (by decide +kernel) (by decide +kernel) rfl (by decide +kernel) (by decide +kernel) rfl rfl ?_
  refine lx_arg (i := i) 2 (by omega) hL (by decide +kernel) (by decide +kernel) (by decide +kernel) rfl (by decide +kernel) (by decide +kernel) rfl rfl ?_
  refine lx_arg (i := i) 3 (by omega) hL (by decide +kernel) (by decide +kernel) (by decide +kernel) rfl (by decide +kernel) (by decide +kernel) rfl rfl ?_
  refine gw_callV (vs := [.int (xs (8 * i + 1)), .int (xs (8 * i + 2)), .int (xs (8 * i + 3))]) (n := 662) kmX11_present kvX11_present l_0 (by decide +kernel) (by decide +kernel) ⟨by decide +kernel, rfl⟩ klL_53 (ok_ax_present (xs (8 * i + 1)) (xs (8 * i + 2)) (xs (8 * i + 3)) M h1) rfl rfl (by omega) (Nat.le_of_ble_eq_true rfl) rfl rfl ?_
  refine gx_aload_n (i := 2) (n := 663) ⟨by decide +kernel, rfl⟩ rfl ?_
  refine lx_arg (i := i) 1 (by omega) hL (by decide +kernel) (by decide +kernel) (by decide +kernel) rfl (by decide +kernel) (by decide +kernel) rfl rfl ?_
  refine lx_arg (i := i) 2 (by omega) hL (by decide +kernel) (by decide +kernel) (by decide +kernel) rfl (by decide +kernel) (by decide +kernel) rfl rfl ?_
  refine lx_arg (i := i) 3 (by omega) hL (by decide +kernel) (by decide +kernel) (by decide +kernel) rfl (by decide +kernel) (by decide +kernel) rfl rfl ?_
  refine gw_callV (vs := [.int (xs (8 * i + 1)), .int (xs (8 * i + 2)), .int (xs (8 * i + 3))]) (n := 684) kmX12_present kvX12_present l_66 (by decide +kernel) (by decide +kernel) ⟨by decide +kernel, rfl⟩ klL_57 (ok_mo_present (xs (8 * i + 1)) (xs (8 * i + 2)) (xs (8 * i + 3)) M h2) rfl rfl (by omega) (Nat.le_of_ble_eq_true rfl) rfl rfl ?_
  exact gx_icmp_eq (n := 687) (t := 1900) (off := 1216) ⟨by decide +kernel, rfl, by decide⟩ (fun _ => K A' Q' v' M2 h3) (fun z => absurd rfl z)
set_option maxRecDepth 100000 in
set_option maxHeartbeats 2000000 in
theorem lc_8 (h : INV n A Q v M) (hi : 8 * i + 8 ≤ Ls) (hL : Ls ≤ 4096) (hd : 100 ≤ d) (K : ∀ (A : sA) (Q : sQ) (v : Nat → Nat) (M2 : dM), INV n A Q v M2 → lawW (lawP E b0 Ls xs) d mc ms lawQ 1900 (lawL i) [] M2) : lawW (lawP E b0 Ls xs) d mc ms lawQ 757 (lawL i) [] M := by
  obtain ⟨b, M1, M2, A', Q', v', h1, h2, h3⟩ := st_each h (xs (8 * i + 1))
  refine gx_aload_n (i := 1) (n := 758) ⟨by decide +kernel, rfl⟩ rfl ?_
  refine lx_arg (i := i) 1 (by omega) hL (by decide +kernel) (by decide +kernel) (by decide +kernel) rfl (by decide +kernel) (by decide +kernel) rfl rfl ?_
  refine gw_callV (vs := [.int (xs (8 * i + 1))]) (n := 767) kmX11_each kvX11_each l_0 (by decide +kernel) (by decide +kernel) ⟨by decide +kernel, rfl⟩ klL_67 (ok_ax_each (xs (8 * i + 1)) M h1) rfl rfl (by omega) (Nat.le_of_ble_eq_true rfl) rfl rfl ?_
  refine gx_aload_n (i := 2) (n := 768) ⟨by decide +kernel, rfl⟩ rfl ?_
  refine lx_arg (i := i) 1 (by omega) hL (by decide +kernel) (by decide +kernel) (by decide +kernel) rfl (by decide +kernel) (by decide +kernel) rfl rfl ?_
  refine gw_callV (vs := [.int (xs (8 * i + 1))]) (n := 777) kmX12_each kvX12_each l_66 (by decide +kernel) (by decide +kernel) ⟨by decide +kernel, rfl⟩ klL_71 (ok_mo_each (xs (8 * i + 1)) M1 h2) rfl rfl (by omega) (Nat.le_of_ble_eq_true rfl) rfl rfl ?_
  exact gx_icmp_eq (n := 780) (t := 1900) (off := 1123) ⟨by decide +kernel, rfl, by decide⟩ (fun _ => K A' Q' v' M2 h3) (fun z => absurd rfl z)
set_option maxRecDepth 100000 in
set_option maxHeartbeats 2000000 in
theorem lc_9 (h : INV n A Q v M) (hi : 8 * i + 8 ≤ Ls) (hL : Ls ≤ 4096) (hd : 100 ≤ d) (K : ∀ (A : sA) (Q : sQ) (v : Nat → Nat) (M2 : dM), INV n A Q v M2 → lawW (lawP E b0 Ls xs) d mc ms lawQ 1900 (lawL i) [] M2) : lawW (lawP E b0 Ls xs) d mc ms lawQ 782 (lawL i) [] M := by
  obtain ⟨b, M1, M2, A', Q', v', h1, h2, h3⟩ := st_stops h (xs (8 * i + 1)) (xs (8 * i + 2))
  refine gx_aload_n (i := 1) (n := 783) ⟨by decide +kernel, rfl⟩ rfl ?_
  refine lx_arg (i := i) 1 (by omega) hL (by decide +kernel) (by decide +kernel) (by decide +kernel) rfl (by decide +kernel) (by decide +kernel) rfl rfl ?_
  refine lx_arg (i := i) 2 (by omega) hL (by decide +kernel) (by decide +kernel) (by decide +kernel) rfl (by decide +kernel) (by decide +kernel) rfl rfl ?_
  refine gw_callV (vs := [.int (xs (8 * i + 1)), .int (xs (8 * i + 2))]) (n := 798) kmX11_stops kvX11_stops l_0 (by decide +kernel) (by decide +kernel) ⟨by decide +kernel, rfl⟩ klL_72 (ok_ax_stops (xs (8 * i + 1)) (xs (8 * i + 2)) M h1) rfl rfl (by omega) (Nat.le_of_ble_eq_true rfl) rfl rfl ?_
  refine gx_aload_n (i := 2) (n := 799) ⟨by decide +kernel, rfl⟩ rfl ?_
  refine lx_arg (i := i) 1 (by omega) hL (by decide +kernel) (by decide +kernel) (by decide +kernel) rfl (by decide +kernel) (by decide +kernel) rfl rfl ?_
  refine lx_arg (i := i) 2 (by omega) hL (by decide +kernel) (by decide +kernel) (by decide +kernel) rfl (by decide +kernel) (by decide +kernel) rfl rfl ?_
  refine gw_callV (vs := [.int (xs (8 * i + 1)), .int (xs (8 * i + 2))]) (n := 814) kmX12_stops kvX12_stops l_66 (by decide +kernel) (by decide +kernel) ⟨by decide +kernel, rfl⟩ klL_75 (ok_mo_stops (xs (8 * i + 1)) (xs (8 * i + 2)) M1 h2) rfl rfl (by omega) (Nat.le_of_ble_eq_true rfl) rfl rfl ?_
  exact gx_icmp_eq (n := 817) (t := 1900) (off := 1086) ⟨by decide +kernel, rfl, by decide⟩ (fun _ => K A' Q' v' M2 h3) (fun z => absurd rfl z)
set_option maxRecDepth 100000 in
set_option maxHeartbeats 2000000 in
theorem lc_10 (h : INV n A Q v M) (hi : 8 * i + 8 ≤ Ls) (hL : Ls ≤ 4096) (hd : 100 ≤ d) (K : ∀ (A : sA) (Q : sQ) (v : Nat → Nat) (M2 : dM), INV n A Q v M2 → lawW (lawP E b0 Ls xs) d mc ms lawQ 1900 (lawL i) [] M2) : lawW (lawP E b0 Ls xs) d mc ms lawQ 819 (lawL i) [] M := by
  obtain ⟨b, M1, M2, A', Q', v', h1, h2, h3⟩ := st_row h (xs (8 * i + 1)) (xs (8 * i + 2)) (xs (8 * i + 3))
  refine gx_aload_n (i := 1) (n := 820) ⟨by decide +kernel, rfl⟩ rfl ?_
  refine lx_arg (i := i) 1 (by omega) hL (by decide +kernel) (by decide +kernel) (by decide +kernel) rfl (by decide +kernel) (by decide +kernel) rfl rfl ?_
  refine lx_arg (i := i) 2 (by omega) hL (by decide +kernel) (by decide +kernel) (by decide +kernel) rfl (by decide +kernel) (by decide +kernel) rfl rfl ?_
  refine lx_arg (i := i) 3 (by omega) hL (by decide +kernel) (by decide +kernel) (by decide +kernel) rfl (by decide +kernel) (by decide +kernel) rfl rfl ?_
  refine gw_callV (vs := [.int (xs (8 * i + 1)), .int (xs (8 * i + 2)), .int (xs (8 * i + 3))]) (n := 841) kmX11_row kvX11_row l_0 (by decide +kernel) (by decide +kernel) ⟨by decide +kernel, rfl⟩ klL_76 (ok_ax_row (xs (8 * i + 1)) (xs (8 * i + 2)) (xs (8 * i + 3)) M h1) rfl rfl (by omega) (Nat.le_of_ble_eq_true rfl) rfl rfl ?_
  refine gx_aload_n (i := 2) (n := 842) ⟨by decide +kernel, rfl⟩ rfl ?_
  refine lx_arg (i := i) 1 (by omega) hL (by decide +kernel) (by decide +kernel) (by decide +kernel) rfl (by decide +kernel) (by decide +kernel) rfl rfl ?_
  refine lx_arg (i := i) 2 (by omega) hL (by decide +kernel) (by decide +kernel) (by decide +kernel) rfl (by decide +kernel) (by decide +kernel) rfl rfl ?_
  refine lx_arg (i := i) 3 (by omega) hL (by decide +kernel) (by decide +kernel) (by decide +kernel) rfl (by decide +kernel) (by decide +kernel) rfl rfl ?_
  refine gw_callV (vs := [.int (xs (8 * i + 1)), .int (xs (8 * i + 2)), .int (xs (8 * i + 3))]) (n := 863) kmX12_row kvX12_row l_66 (by decide +kernel) (by decide +kernel) ⟨by decide +kernel, rfl⟩ klL_79 (ok_mo_row (xs (8 * i + 1)) (xs (8 * i + 2)) (xs (8 * i + 3)) M1 h2) rfl rfl (by omega) (Nat.le_of_ble_eq_true rfl) rfl rfl ?_
  exact gx_icmp_eq (n := 866) (t := 1900) (off := 1037) ⟨by decide +kernel, rfl, by decide⟩ (fun _ => K A' Q' v' M2 h3) (fun z => absurd rfl z)
set_option maxRecDepth 100000 in
set_option maxHeartbeats 2000000 in
theorem lc_11 (h : INV n A Q v M) (hi : 8 * i + 8 ≤ Ls) (hL : Ls ≤ 4096) (hd : 100 ≤ d) (K : ∀ (A : sA) (Q : sQ) (v : Nat → Nat) (M2 : dM), INV n A Q v M2 → lawW (lawP E b0 Ls xs) d mc ms lawQ 1900 (lawL i) [] M2) : lawW (lawP E b0 Ls xs) d mc ms lawQ 868 (lawL i) [] M := by
  obtain ⟨b, M1, M2, A', Q', v', h1, h2, h3⟩ := st_odds h (xs (8 * i + 1)) (xs (8 * i + 2)) (xs (8 * i + 3))
  refine gx_aload_n (i := 1) (n := 869) ⟨by decide +kernel, rfl⟩ rfl ?_
  refine lx_arg (i := i) 1 (by omega) hL (by decide +kernel) (by decide +kernel) (by decide +kernel) rfl (by decide +kernel) (by decide +kernel) rfl rfl ?_
  refine lx_arg (i := i) 2 (by omega) hL (by decide +kernel) (by decide +kernel) (by decide +kernel) rfl (by decide +kernel) (by decide +kernel) rfl rfl ?_
  refine lx_arg (i := i) 3 (by omega) hL (by decide +kernel) (by decide +kernel) (by decide +kernel) rfl (by decide +kernel) (by decide +kernel) rfl rfl ?_
  refine gw_callV (vs := [.int (xs (8 * i + 1)), .int (xs (8 * i + 2)), .int (xs (8 * i + 3))]) (n := 890) kmX11_odds kvX11_odds l_0 (by decide +kernel) (by decide +kernel) ⟨by decide +kernel, rfl⟩ klL_80 (ok_ax_odds (xs (8 * i + 1)) (xs (8 * i + 2)) (xs (8 * i + 3)) M h1) rfl rfl (by omega) (Nat.le_of_ble_eq_true rfl) rfl rfl ?_
  refine gx_aload_n (i := 2) (n := 891) ⟨by decide +kernel, rfl⟩ rfl ?_
  refine lx_arg (i := i) 1 (by omega) hL (by decide +kernel) (by decide +kernel) (by decide +kernel) rfl (by decide +kernel) (by decide +kernel) rfl rfl ?_
  refine lx_arg (i := i) 2 (by omega) hL (by decide +kernel) (by decide +kernel) (by decide +kernel) rfl (by decide +kernel) (by decide +kernel) rfl rfl ?_
  refine lx_arg (i := i) 3 (by omega) hL (by decide +kernel) (by decide +kernel) (by decide +kernel) rfl (by decide +kernel) (by decide +kernel) rfl rfl ?_
  refine gw_callV (vs := [.int (xs (8 * i + 1)), .int (xs (8 * i + 2)), .int (xs (8 * i + 3))]) (n := 912) kmX12_odds kvX12_odds l_66 (by decide +kernel) (by decide +kernel) ⟨by decide +kernel, rfl⟩ klL_84 (ok_mo_odds (xs (8 * i + 1)) (xs (8 * i + 2)) (xs (8 * i + 3)) M1 h2) rfl rfl (by omega) (Nat.le_of_ble_eq_true rfl) rfl rfl ?_
  refine gx_lcmp (n := 913) ⟨by decide +kernel, rfl⟩ ?_
  exact gx_if_eq (n := 916) (t := 1900) (off := 987) ⟨by decide +kernel, rfl, by decide⟩ (fun _ => K A' Q' v' M2 h3) (fun z => absurd ((lc_eq b b).mpr rfl) z)
set_option maxRecDepth 100000 in
set_option maxHeartbeats 2000000 in
theorem lc_12 (h : INV n A Q v M) (hi : 8 * i + 8 ≤ Ls) (hL : Ls ≤ 4096) (hd : 100 ≤ d) (K : ∀ (A : sA) (Q : sQ) (v : Nat → Nat) (M2 : dM), INV n A Q v M2 → lawW (lawP E b0 Ls xs) d mc ms lawQ 1900 (lawL i) [] M2) : lawW (lawP E b0 Ls xs) d mc ms lawQ 918 (lawL i) [] M := by
  obtain ⟨b, M2, A', Q', v', h1, h2, h3⟩ := st_luck h (xs (8 * i + 1)) (xs (8 * i + 2)) (xs (8 * i + 3)) (xs (8 * i + 4)) (xs (8 * i + 5))
  refine gx_aload_n (i := 1) (n := 919) ⟨by decide +kernel, rfl⟩ rfl ?_
  refine lx_arg (i := i) 1 (by omega) hL (by decide +kernel) (by decide +kernel) (by decide +kernel) rfl (by decide +kernel) (by decide +kernel) rfl rfl ?_
  refine lx_arg (i := i) 2 (by omega) hL (by decide +kernel) (by decide +kernel) (by decide +kernel) rfl (by decide +kernel) (by decide +kernel) rfl rfl ?_
  refine lx_arg (i := i) 3 (by omega) hL (by decide +kernel) (by decide +kernel) (by decide +kernel) rfl (by decide +kernel) (by decide +kernel) rfl rfl ?_
  refine lx_arg (i := i) 4 (by omega) hL (by decide +kernel) (by decide +kernel) (by decide +kernel) rfl (by decide +kernel) (by decide +kernel) rfl rfl ?_
  refine lx_arg (i := i) 5 (by omega) hL (by decide +kernel) (by decide +kernel) (by decide +kernel) rfl (by decide +kernel) (by decide +kernel) rfl rfl ?_
  refine gw_callV (vs := [.int (xs (8 * i + 1)), .int (xs (8 * i + 2)), .int (xs (8 * i + 3)), .int (xs (8 * i + 4)), .int (xs (8 * i + 5))]) (n := 952) kmX11_luck kvX11_luck l_0 (by decide +kernel) (by decide +kernel) ⟨by decide +kernel, rfl⟩ klL_85 (ok_ax_luck (xs (8 * i + 1)) (xs (8 * i + 2)) (xs (8 * i + 3)) (xs (8 * i + 4)) (xs (8 * i + 5)) M h1) rfl rfl (by omega) (Nat.le_of_ble_eq_true rfl) rfl rfl ?_
  refine gx_aload_n (i := 2) (n := 953) ⟨by decide +kernel, rfl⟩ rfl ?_
  refine lx_arg (i := i) 1 (by omega) hL (by decide +kernel) (by decide +kernel) (by decide +kernel) rfl (by decide +kernel) (by decide +kernel) rfl rfl ?_
  refine lx_arg (i := i) 2 (by omega) hL (by decide +kernel) (by decide +kernel) (by decide +kernel) rfl (by decide +kernel) (by decide +kernel) rfl rfl ?_
  refine lx_arg (i := i) 3 (by omega) hL (by decide +kernel) (by decide +kernel) (by decide +kernel) rfl (by decide +kernel) (by decide +kernel) rfl rfl ?_
  refine lx_arg (i := i) 4 (by omega) hL (by decide +kernel) (by decide +kernel) (by decide +kernel) rfl (by decide +kernel) (by decide +kernel) rfl rfl ?_
  refine lx_arg (i := i) 5 (by omega) hL (by decide +kernel) (by decide +kernel) (by decide +kernel) rfl (by decide +kernel) (by decide +kernel) rfl rfl ?_
  refine gw_callV (vs := [.int (xs (8 * i + 1)), .int (xs (8 * i + 2)), .int (xs (8 * i + 3)), .int (xs (8 * i + 4)), .int (xs (8 * i + 5))]) (n := 986) kmX12_luck kvX12_luck l_66 (by decide +kernel) (by decide +kernel) ⟨by decide +kernel, rfl⟩ klL_89 (ok_mo_luck (xs (8 * i + 1)) (xs (8 * i + 2)) (xs (8 * i + 3)) (xs (8 * i + 4)) (xs (8 * i + 5)) M h2) rfl rfl (by omega) (Nat.le_of_ble_eq_true rfl) rfl rfl ?_
  refine gx_lcmp (n := 987) ⟨by decide +kernel, rfl⟩ ?_
  exact gx_if_eq (n := 990) (t := 1900) (off := 913) ⟨by decide +kernel, rfl, by decide⟩ (fun _ => K A' Q' v' M2 h3) (fun z => absurd ((lc_eq b b).mpr rfl) z)
set_option maxRecDepth 100000 in
set_option maxHeartbeats 2000000 in
theorem lc_13 (h : INV n A Q v M) (hi : 8 * i + 8 ≤ Ls) (hL : Ls ≤ 4096) (hd : 100 ≤ d) (K : ∀ (A : sA) (Q : sQ) (v : Nat → Nat) (M2 : dM), INV n A Q v M2 → lawW (lawP E b0 Ls xs) d mc ms lawQ 1900 (lawL i) [] M2) : lawW (lawP E b0 Ls xs) d mc ms lawQ 992 (lawL i) [] M := by
  obtain ⟨b, M1, M2, A', Q', v', h1, h2, h3⟩ := st_can h (xs (8 * i + 1))
  refine gx_aload_n (i := 1) (n := 993) ⟨by decide +kernel, rfl⟩ rfl ?_
  refine lx_arg (i := i) 1 (by omega) hL (by decide +kernel) (by decide +kernel) (by decide +kernel) rfl (by decide +kernel) (by decide +kernel) rfl rfl ?_
  refine gw_callV (vs := [.int (xs (8 * i + 1))]) (n := 1002) kmX11_can kvX11_can l_0 (by decide +kernel) (by decide +kernel) ⟨by decide +kernel, rfl⟩ klL_90 (ok_ax_can (xs (8 * i + 1)) M h1) rfl rfl (by omega) (Nat.le_of_ble_eq_true rfl) rfl rfl ?_
  refine gx_aload_n (i := 2) (n := 1003) ⟨by decide +kernel, rfl⟩ rfl ?_
  refine lx_arg (i := i) 1 (by omega) hL (by decide +kernel) (by decide +kernel) (by decide +kernel) rfl (by decide +kernel) (by decide +kernel) rfl rfl ?_
  refine gw_callV (vs := [.int (xs (8 * i + 1))]) (n := 1012) kmX12_can kvX12_can l_66 (by decide +kernel) (by decide +kernel) ⟨by decide +kernel, rfl⟩ klL_93 (ok_mo_can (xs (8 * i + 1)) M1 h2) rfl rfl (by omega) (Nat.le_of_ble_eq_true rfl) rfl rfl ?_
  exact gx_icmp_eq (n := 1015) (t := 1900) (off := 888) ⟨by decide +kernel, rfl, by decide⟩ (fun _ => K A' Q' v' M2 h3) (fun z => absurd rfl z)
set_option maxRecDepth 100000 in
set_option maxHeartbeats 2000000 in
theorem lc_14 (h : INV n A Q v M) (hi : 8 * i + 8 ≤ Ls) (hL : Ls ≤ 4096) (hd : 100 ≤ d) (K : ∀ (A : sA) (Q : sQ) (v : Nat → Nat) (M2 : dM), INV n A Q v M2 → lawW (lawP E b0 Ls xs) d mc ms lawQ 1900 (lawL i) [] M2) : lawW (lawP E b0 Ls xs) d mc ms lawQ 1017 (lawL i) [] M := by
  obtain ⟨b, M1, M2, A', Q', v', h1, h2, h3⟩ := st_seen h (xs (8 * i + 1)) (xs (8 * i + 2)) (xs (8 * i + 3))
  refine gx_aload_n (i := 1) (n := 1018) ⟨by decide +kernel, rfl⟩ rfl ?_
  refine lx_arg (i := i) 1 (by omega) hL (by decide +kernel) (by decide +kernel) (by decide +kernel) rfl (by decide +kernel) (by decide +kernel) rfl rfl ?_
  refine lx_arg (i := i) 2 (by omega) hL (by decide +kernel) (by decide +kernel) (by decide +kernel) rfl (by decide +kernel) (by decide +kernel) rfl rfl ?_
  refine lx_arg (i := i) 3 (by omega) hL (by decide +kernel) (by decide +kernel) (by decide +kernel) rfl (by decide +kernel) (by decide +kernel) rfl rfl ?_
  refine gw_callV (vs := [.int (xs (8 * i + 1)), .int (xs (8 * i + 2)), .int (xs (8 * i + 3))]) (n := 1039) kmX11_seen kvX11_seen l_0 (by decide +kernel) (by decide +kernel) ⟨by decide +kernel, rfl⟩ klL_94 (ok_ax_seen (xs (8 * i + 1)) (xs (8 * i + 2)) (xs (8 * i + 3)) M h1) rfl rfl (by omega) (Nat.le_of_ble_eq_true rfl) rfl rfl ?_
  refine gx_aload_n (i := 2) (n := 1040) ⟨by decide +kernel, rfl⟩ rfl ?_
  refine lx_arg (i := i) 1 (by omega) hL (by decide +kernel) (by decide +kernel) (by decide +kernel) rfl (by decide +kernel) (by decide +kernel) rfl rfl ?_
  refine lx_arg (i := i) 2 (by omega) hL (by decide +kernel) (by decide +kernel) (by decide +kernel) rfl (by decide +kernel) (by decide +kernel) rfl rfl ?_
  refine lx_arg (i := i) 3 (by omega) hL (by decide +kernel) (by decide +kernel) (by decide +kernel) rfl (by decide +kernel) (by decide +kernel) rfl rfl ?_
  refine gw_callV (vs := [.int (xs (8 * i + 1)), .int (xs (8 * i + 2)), .int (xs (8 * i + 3))]) (n := 1061) kmX12_seen kvX12_seen l_66 (by decide +kernel) (by decide +kernel) ⟨by decide +kernel, rfl⟩ klL_97 (ok_mo_seen (xs (8 * i + 1)) (xs (8 * i + 2)) (xs (8 * i + 3)) M1 h2) rfl rfl (by omega) (Nat.le_of_ble_eq_true rfl) rfl rfl ?_
  exact gx_icmp_eq (n := 1064) (t := 1900) (off := 839) ⟨by decide +kernel, rfl, by decide⟩ (fun _ => K A' Q' v' M2 h3) (fun z => absurd rfl z)
set_option maxRecDepth 100000 in
set_option maxHeartbeats 2000000 in
theorem lc_15 (h : INV n A Q v M) (hi : 8 * i + 8 ≤ Ls) (hL : Ls ≤ 4096) (hd : 100 ≤ d) (K : ∀ (A : sA) (Q : sQ) (v : Nat → Nat) (M2 : dM), INV n A Q v M2 → lawW (lawP E b0 Ls xs) d mc ms lawQ 1900 (lawL i) [] M2) : lawW (lawP E b0 Ls xs) d mc ms lawQ 1066 (lawL i) [] M := by
  obtain ⟨b, M1, M2, A', Q', v', h1, h2, h3⟩ := st_may h (xs (8 * i + 1))
  refine gx_aload_n (i := 1) (n := 1067) ⟨by decide +kernel, rfl⟩ rfl ?_
  refine lx_arg (i := i) 1 (by omega) hL (by decide +kernel) (by decide +kernel) (by decide +kernel) rfl (by decide +kernel) (by decide +kernel) rfl rfl ?_
  refine gw_callV (vs := [.int (xs (8 * i + 1))]) (n := 1076) kmX11_may kvX11_may l_0 (by decide +kernel) (by decide +kernel) ⟨by decide +kernel, rfl⟩ klL_98 (ok_ax_may (xs (8 * i + 1)) M h1) rfl rfl (by omega) (Nat.le_of_ble_eq_true rfl) rfl rfl ?_
  refine gx_aload_n (i := 2) (n := 1077) ⟨by decide +kernel, rfl⟩ rfl ?_
  refine lx_arg (i := i) 1 (by omega) hL (by decide +kernel) (by decide +kernel) (by decide +kernel) rfl (by decide +kernel) (by decide +kernel) rfl rfl ?_
  refine gw_callV (vs := [.int (xs (8 * i + 1))]) (n := 1086) kmX12_may kvX12_may l_66 (by decide +kernel) (by decide +kernel) ⟨by decide +kernel, rfl⟩ klL_101 (ok_mo_may (xs (8 * i + 1)) M1 h2) rfl rfl (by omega) (Nat.le_of_ble_eq_true rfl) rfl rfl ?_
  exact gx_icmp_eq (n := 1089) (t := 1900) (off := 814) ⟨by decide +kernel, rfl, by decide⟩ (fun _ => K A' Q' v' M2 h3) (fun z => absurd rfl z)
set_option maxRecDepth 100000 in
set_option maxHeartbeats 2000000 in
theorem lc_16 (h : INV n A Q v M) (hi : 8 * i + 8 ≤ Ls) (hL : Ls ≤ 4096) (hd : 100 ≤ d) (K : ∀ (A : sA) (Q : sQ) (v : Nat → Nat) (M2 : dM), INV n A Q v M2 → lawW (lawP E b0 Ls xs) d mc ms lawQ 1900 (lawL i) [] M2) : lawW (lawP E b0 Ls xs) d mc ms lawQ 1091 (lawL i) [] M := by
  obtain ⟨b, M1, M2, A', Q', v', h1, h2, h3⟩ := st_put h (xs (8 * i + 1))
  refine gx_aload_n (i := 1) (n := 1092) ⟨by decide +kernel, rfl⟩ rfl ?_
  refine lx_arg (i := i) 1 (by omega) hL (by decide +kernel) (by decide +kernel) (by decide +kernel) rfl (by decide +kernel) (by decide +kernel) rfl rfl ?_
  refine gw_callV (vs := [.int (xs (8 * i + 1))]) (n := 1101) kmX11_put kvX11_put l_0 (by decide +kernel) (by decide +kernel) ⟨by decide +kernel, rfl⟩ klL_102 (ok_ax_put (xs (8 * i + 1)) M h1) rfl rfl (by omega) (Nat.le_of_ble_eq_true rfl) rfl rfl ?_
  refine gx_aload_n (i := 2) (n := 1102) ⟨by decide +kernel, rfl⟩ rfl ?_
  refine lx_arg (i := i) 1 (by omega) hL (by decide +kernel) (by decide +kernel) (by decide +kernel) rfl (by decide +kernel) (by decide +kernel) rfl rfl ?_
  refine gw_callV (vs := [.int (xs (8 * i + 1))]) (n := 1111) kmX12_put kvX12_put l_66 (by decide +kernel) (by decide +kernel) ⟨by decide +kernel, rfl⟩ klL_105 (ok_mo_put (xs (8 * i + 1)) M1 h2) rfl rfl (by omega) (Nat.le_of_ble_eq_true rfl) rfl rfl ?_
  exact gx_icmp_eq (n := 1114) (t := 1900) (off := 789) ⟨by decide +kernel, rfl, by decide⟩ (fun _ => K A' Q' v' M2 h3) (fun z => absurd rfl z)
set_option maxRecDepth 100000 in
set_option maxHeartbeats 2000000 in
theorem lc_17 (h : INV n A Q v M) (hi : 8 * i + 8 ≤ Ls) (hL : Ls ≤ 4096) (hd : 100 ≤ d) (K : ∀ (A : sA) (Q : sQ) (v : Nat → Nat) (M2 : dM), INV n A Q v M2 → lawW (lawP E b0 Ls xs) d mc ms lawQ 1900 (lawL i) [] M2) : lawW (lawP E b0 Ls xs) d mc ms lawQ 1116 (lawL i) [] M := by
  obtain ⟨b, M1, M2, A', Q', v', h1, h2, h3⟩ := st_stories h (xs (8 * i + 1))
  refine gx_aload_n (i := 1) (n := 1117) ⟨by decide +kernel, rfl⟩ rfl ?_
  refine lx_arg (i := i) 1 (by omega) hL (by decide +kernel) (by decide +kernel) (by decide +kernel) rfl (by decide +kernel) (by decide +kernel) rfl rfl ?_
  refine gw_callV (vs := [.int (xs (8 * i + 1))]) (n := 1126) kmX11_stories kvX11_stories l_0 (by decide +kernel) (by decide +kernel) ⟨by decide +kernel, rfl⟩ klL_106 (ok_ax_stories (xs (8 * i + 1)) M h1) rfl rfl (by omega) (Nat.le_of_ble_eq_true rfl) rfl rfl ?_
  refine gx_aload_n (i := 2) (n := 1127) ⟨by decide +kernel, rfl⟩ rfl ?_
  refine lx_arg (i := i) 1 (by omega) hL (by decide +kernel) (by decide +kernel) (by decide +kernel) rfl (by decide +kernel) (by decide +kernel) rfl rfl ?_
  refine gw_callV (vs := [.int (xs (8 * i + 1))]) (n := 1136) kmX12_stories kvX12_stories l_66 (by decide +kernel) (by decide +kernel) ⟨by decide +kernel, rfl⟩ klL_109 (ok_mo_stories (xs (8 * i + 1)) M1 h2) rfl rfl (by omega) (Nat.le_of_ble_eq_true rfl) rfl rfl ?_
  exact gx_icmp_eq (n := 1139) (t := 1900) (off := 764) ⟨by decide +kernel, rfl, by decide⟩ (fun _ => K A' Q' v' M2 h3) (fun z => absurd rfl z)
set_option maxRecDepth 100000 in
set_option maxHeartbeats 2000000 in
theorem lc_18 (h : INV n A Q v M) (hi : 8 * i + 8 ≤ Ls) (hL : Ls ≤ 4096) (hd : 100 ≤ d) (K : ∀ (A : sA) (Q : sQ) (v : Nat → Nat) (M2 : dM), INV n A Q v M2 → lawW (lawP E b0 Ls xs) d mc ms lawQ 1900 (lawL i) [] M2) : lawW (lawP E b0 Ls xs) d mc ms lawQ 1141 (lawL i) [] M := by
  obtain ⟨b, M1, M2, A', Q', v', h1, h2, h3⟩ := st_ground h (xs (8 * i + 1)) (((xs (8 * i + 2)).toInt64 <<< ((32 : Int32).toInt64 &&& 63)) ||| ((xs (8 * i + 3)).toInt64 &&& (4294967295 : Int64))) (xs (8 * i + 4))
  refine gx_aload_n (i := 1) (n := 1142) ⟨by decide +kernel, rfl⟩ rfl ?_
  refine lx_arg (i := i) 1 (by omega) hL (by decide +kernel) (by decide +kernel) (by decide +kernel) rfl (by decide +kernel) (by decide +kernel) rfl rfl ?_
  refine lx_arg (i := i) 2 (by omega) hL (by decide +kernel) (by decide +kernel) (by decide +kernel) rfl (by decide +kernel) (by decide +kernel) rfl rfl ?_
  refine gx_i2l (n := 1155) ⟨by decide +kernel, rfl⟩ ?_
  refine gx_bipush (i := 32) (v := 32) (n := 1157) ⟨by decide +kernel, rfl⟩ (by decide) ?_
  refine gx_lshl (n := 1158) ⟨by decide +kernel, rfl⟩ ?_
  refine lx_arg (i := i) 3 (by omega) hL (by decide +kernel) (by decide +kernel) (by decide +kernel) rfl (by decide +kernel) (by decide +kernel) rfl rfl ?_
  refine gx_i2l (n := 1165) ⟨by decide +kernel, rfl⟩ ?_
  refine gx_ldc2 (i := 41) (v := 4294967295) (n := 1168) ⟨by decide +kernel, rfl⟩ (mz_in 2220 (by decide +kernel) (by decide +kernel)) ?_
  refine gx_land (n := 1169) ⟨by decide +kernel, rfl⟩ ?_
  refine gx_lor (n := 1170) ⟨by decide +kernel, rfl⟩ ?_
  refine lx_arg (i := i) 4 (by omega) hL (by decide +kernel) (by decide +kernel) (by decide +kernel) rfl (by decide +kernel) (by decide +kernel) rfl rfl ?_
  refine gw_callV (vs := [.int (xs (8 * i + 1)), .long (((xs (8 * i + 2)).toInt64 <<< ((32 : Int32).toInt64 &&& 63)) ||| ((xs (8 * i + 3)).toInt64 &&& (4294967295 : Int64))), .int (xs (8 * i + 4))]) (n := 1179) kmX11_ground kvX11_ground l_0 (by decide +kernel) (by decide +kernel) ⟨by decide +kernel, rfl⟩ klL_110 (ok_ax_ground (xs (8 * i + 1)) (((xs (8 * i + 2)).toInt64 <<< ((32 : Int32).toInt64 &&& 63)) ||| ((xs (8 * i + 3)).toInt64 &&& (4294967295 : Int64))) (xs (8 * i + 4)) M h1) rfl rfl (by omega) (Nat.le_of_ble_eq_true rfl) rfl rfl ?_
  refine gx_aload_n (i := 2) (n := 1180) ⟨by decide +kernel, rfl⟩ rfl ?_
  refine lx_arg (i := i) 1 (by omega) hL (by decide +kernel) (by decide +kernel) (by decide +kernel) rfl (by decide +kernel) (by decide +kernel) rfl rfl ?_
  refine lx_arg (i := i) 2 (by omega) hL (by decide +kernel) (by decide +kernel) (by decide +kernel) rfl (by decide +kernel) (by decide +kernel) rfl rfl ?_
  refine gx_i2l (n := 1193) ⟨by decide +kernel, rfl⟩ ?_
  refine gx_bipush (i := 32) (v := 32) (n := 1195) ⟨by decide +kernel, rfl⟩ (by decide) ?_
  refine gx_lshl (n := 1196) ⟨by decide +kernel, rfl⟩ ?_
  refine lx_arg (i := i) 3 (by omega) hL (by decide +kernel) (by decide +kernel) (by decide +kernel) rfl (by decide +kernel) (by decide +kernel) rfl rfl ?_
  refine gx_i2l (n := 1203) ⟨by decide +kernel, rfl⟩ ?_
  refine gx_ldc2 (i := 41) (v := 4294967295) (n := 1206) ⟨by decide +kernel, rfl⟩ (mz_in 2220 (by decide +kernel) (by decide +kernel)) ?_
  refine gx_land (n := 1207) ⟨by decide +kernel, rfl⟩ ?_
  refine gx_lor (n := 1208) ⟨by decide +kernel, rfl⟩ ?_
  refine lx_arg (i := i) 4 (by omega) hL (by decide +kernel) (by decide +kernel) (by decide +kernel) rfl (by decide +kernel) (by decide +kernel) rfl rfl ?_
  refine gw_callV (vs := [.int (xs (8 * i + 1)), .long (((xs (8 * i + 2)).toInt64 <<< ((32 : Int32).toInt64 &&& 63)) ||| ((xs (8 * i + 3)).toInt64 &&& (4294967295 : Int64))), .int (xs (8 * i + 4))]) (n := 1217) kmX12_ground kvX12_ground l_66 (by decide +kernel) (by decide +kernel) ⟨by decide +kernel, rfl⟩ klL_114 (ok_mo_ground (xs (8 * i + 1)) (((xs (8 * i + 2)).toInt64 <<< ((32 : Int32).toInt64 &&& 63)) ||| ((xs (8 * i + 3)).toInt64 &&& (4294967295 : Int64))) (xs (8 * i + 4)) M1 h2) rfl rfl (by omega) (Nat.le_of_ble_eq_true rfl) rfl rfl ?_
  exact gx_icmp_eq (n := 1220) (t := 1900) (off := 683) ⟨by decide +kernel, rfl, by decide⟩ (fun _ => K A' Q' v' M2 h3) (fun z => absurd rfl z)
set_option maxRecDepth 100000 in
set_option maxHeartbeats 2000000 in
theorem lc_19 (h : INV n A Q v M) (hi : 8 * i + 8 ≤ Ls) (hL : Ls ≤ 4096) (hd : 100 ≤ d) (K : ∀ (A : sA) (Q : sQ) (v : Nat → Nat) (M2 : dM), INV n A Q v M2 → lawW (lawP E b0 Ls xs) d mc ms lawQ 1900 (lawL i) [] M2) : lawW (lawP E b0 Ls xs) d mc ms lawQ 1222 (lawL i) [] M := by
  obtain ⟨b, M2, A', Q', v', h1, h2, h3⟩ := st_standing h (xs (8 * i + 1))
  refine gx_aload_n (i := 1) (n := 1223) ⟨by decide +kernel, rfl⟩ rfl ?_
  refine lx_arg (i := i) 1 (by omega) hL (by decide +kernel) (by decide +kernel) (by decide +kernel) rfl (by decide +kernel) (by decide +kernel) rfl rfl ?_
  refine gw_callV (vs := [.int (xs (8 * i + 1))]) (n := 1232) kmX11_standing kvX11_standing l_0 (by decide +kernel) (by decide +kernel) ⟨by decide +kernel, rfl⟩ klL_115 (ok_ax_standing (xs (8 * i + 1)) M h1) rfl rfl (by omega) (Nat.le_of_ble_eq_true rfl) rfl rfl ?_
  refine gx_aload_n (i := 2) (n := 1233) ⟨by decide +kernel, rfl⟩ rfl ?_
  refine lx_arg (i := i) 1 (by omega) hL (by decide +kernel) (by decide +kernel) (by decide +kernel) rfl (by decide +kernel) (by decide +kernel) rfl rfl ?_
  refine gw_callV (vs := [.int (xs (8 * i + 1))]) (n := 1242) kmX12_standing kvX12_standing l_66 (by decide +kernel) (by decide +kernel) ⟨by decide +kernel, rfl⟩ klL_118 (ok_mo_standing (xs (8 * i + 1)) M h2) rfl rfl (by omega) (Nat.le_of_ble_eq_true rfl) rfl rfl ?_
  exact gx_icmp_eq (n := 1245) (t := 1900) (off := 658) ⟨by decide +kernel, rfl, by decide⟩ (fun _ => K A' Q' v' M2 h3) (fun z => absurd rfl z)
set_option maxRecDepth 100000 in
set_option maxHeartbeats 2000000 in
theorem lc_20 (h : INV n A Q v M) (hi : 8 * i + 8 ≤ Ls) (hL : Ls ≤ 4096) (hd : 100 ≤ d) (K : ∀ (A : sA) (Q : sQ) (v : Nat → Nat) (M2 : dM), INV n A Q v M2 → lawW (lawP E b0 Ls xs) d mc ms lawQ 1900 (lawL i) [] M2) : lawW (lawP E b0 Ls xs) d mc ms lawQ 1247 (lawL i) [] M := by
  obtain ⟨b, M2, A', Q', v', h1, h2, h3⟩ := st_oldest h (xs (8 * i + 1))
  refine gx_aload_n (i := 1) (n := 1248) ⟨by decide +kernel, rfl⟩ rfl ?_
  refine lx_arg (i := i) 1 (by omega) hL (by decide +kernel) (by decide +kernel) (by decide +kernel) rfl (by decide +kernel) (by decide +kernel) rfl rfl ?_
  refine gw_callV (vs := [.int (xs (8 * i + 1))]) (n := 1257) kmX11_oldest kvX11_oldest l_0 (by decide +kernel) (by decide +kernel) ⟨by decide +kernel, rfl⟩ klL_119 (ok_ax_oldest (xs (8 * i + 1)) M h1) rfl rfl (by omega) (Nat.le_of_ble_eq_true rfl) rfl rfl ?_
  refine gx_aload_n (i := 2) (n := 1258) ⟨by decide +kernel, rfl⟩ rfl ?_
  refine lx_arg (i := i) 1 (by omega) hL (by decide +kernel) (by decide +kernel) (by decide +kernel) rfl (by decide +kernel) (by decide +kernel) rfl rfl ?_
  refine gw_callV (vs := [.int (xs (8 * i + 1))]) (n := 1267) kmX12_oldest kvX12_oldest l_66 (by decide +kernel) (by decide +kernel) ⟨by decide +kernel, rfl⟩ klL_122 (ok_mo_oldest (xs (8 * i + 1)) M h2) rfl rfl (by omega) (Nat.le_of_ble_eq_true rfl) rfl rfl ?_
  exact gx_icmp_eq (n := 1270) (t := 1900) (off := 633) ⟨by decide +kernel, rfl, by decide⟩ (fun _ => K A' Q' v' M2 h3) (fun z => absurd rfl z)
set_option maxRecDepth 100000 in
set_option maxHeartbeats 2000000 in
theorem lc_21 (h : INV n A Q v M) (hi : 8 * i + 8 ≤ Ls) (hL : Ls ≤ 4096) (hd : 100 ≤ d) (K : ∀ (A : sA) (Q : sQ) (v : Nat → Nat) (M2 : dM), INV n A Q v M2 → lawW (lawP E b0 Ls xs) d mc ms lawQ 1900 (lawL i) [] M2) : lawW (lawP E b0 Ls xs) d mc ms lawQ 1272 (lawL i) [] M := by
  obtain ⟨b, M1, M2, A', Q', v', h1, h2, h3⟩ := st_cut h (xs (8 * i + 1)) (xs (8 * i + 2))
  refine gx_aload_n (i := 1) (n := 1273) ⟨by decide +kernel, rfl⟩ rfl ?_
  refine lx_arg (i := i) 1 (by omega) hL (by decide +kernel) (by decide +kernel) (by decide +kernel) rfl (by decide +kernel) (by decide +kernel) rfl rfl ?_
  refine lx_arg (i := i) 2 (by omega) hL (by decide +kernel) (by decide +kernel) (by decide +kernel) rfl (by decide +kernel) (by decide +kernel) rfl rfl ?_
  refine gw_callV (vs := [.int (xs (8 * i + 1)), .int (xs (8 * i + 2))]) (n := 1288) kmX11_cut kvX11_cut l_0 (by decide +kernel) (by decide +kernel) ⟨by decide +kernel, rfl⟩ klL_123 (ok_ax_cut (xs (8 * i + 1)) (xs (8 * i + 2)) M h1) rfl rfl (by omega) (Nat.le_of_ble_eq_true rfl) rfl rfl ?_
  refine gx_aload_n (i := 2) (n := 1289) ⟨by decide +kernel, rfl⟩ rfl ?_
  refine lx_arg (i := i) 1 (by omega) hL (by decide +kernel) (by decide +kernel) (by decide +kernel) rfl (by decide +kernel) (by decide +kernel) rfl rfl ?_
  refine lx_arg (i := i) 2 (by omega) hL (by decide +kernel) (by decide +kernel) (by decide +kernel) rfl (by decide +kernel) (by decide +kernel) rfl rfl ?_
  refine gw_callV (vs := [.int (xs (8 * i + 1)), .int (xs (8 * i + 2))]) (n := 1304) kmX12_cut kvX12_cut l_66 (by decide +kernel) (by decide +kernel) ⟨by decide +kernel, rfl⟩ klL_126 (ok_mo_cut (xs (8 * i + 1)) (xs (8 * i + 2)) M1 h2) rfl rfl (by omega) (Nat.le_of_ble_eq_true rfl) rfl rfl ?_
  exact gx_icmp_eq (n := 1307) (t := 1900) (off := 596) ⟨by decide +kernel, rfl, by decide⟩ (fun _ => K A' Q' v' M2 h3) (fun z => absurd rfl z)
set_option maxRecDepth 100000 in
set_option maxHeartbeats 2000000 in
theorem lc_22 (h : INV n A Q v M) (hi : 8 * i + 8 ≤ Ls) (hL : Ls ≤ 4096) (hd : 100 ≤ d) (K : ∀ (A : sA) (Q : sQ) (v : Nat → Nat) (M2 : dM), INV n A Q v M2 → lawW (lawP E b0 Ls xs) d mc ms lawQ 1900 (lawL i) [] M2) : lawW (lawP E b0 Ls xs) d mc ms lawQ 1309 (lawL i) [] M := by
  obtain ⟨b, M1, M2, A', Q', v', h1, h2, h3⟩ := st_doubted h (xs (8 * i + 1))
  refine gx_aload_n (i := 1) (n := 1310) ⟨by decide +kernel, rfl⟩ rfl ?_
  refine lx_arg (i := i) 1 (by omega) hL (by decide +kernel) (by decide +kernel) (by decide +kernel) rfl (by decide +kernel) (by decide +kernel) rfl rfl ?_
  refine gw_callV (vs := [.int (xs (8 * i + 1))]) (n := 1319) kmX11_doubted kvX11_doubted l_0 (by decide +kernel) (by decide +kernel) ⟨by decide +kernel, rfl⟩ klL_127 (ok_ax_doubted (xs (8 * i + 1)) M h1) rfl rfl (by omega) (Nat.le_of_ble_eq_true rfl) rfl rfl ?_
  refine gx_aload_n (i := 2) (n := 1320) ⟨by decide +kernel, rfl⟩ rfl ?_
  refine lx_arg (i := i) 1 (by omega) hL (by decide +kernel) (by decide +kernel) (by decide +kernel) rfl (by decide +kernel) (by decide +kernel) rfl rfl ?_
  refine gw_callV (vs := [.int (xs (8 * i + 1))]) (n := 1329) kmX12_doubted kvX12_doubted l_66 (by decide +kernel) (by decide +kernel) ⟨by decide +kernel, rfl⟩ klL_130 (ok_mo_doubted (xs (8 * i + 1)) M1 h2) rfl rfl (by omega) (Nat.le_of_ble_eq_true rfl) rfl rfl ?_
  exact gx_icmp_eq (n := 1332) (t := 1900) (off := 571) ⟨by decide +kernel, rfl, by decide⟩ (fun _ => K A' Q' v' M2 h3) (fun z => absurd rfl z)
set_option maxRecDepth 100000 in
set_option maxHeartbeats 2000000 in
theorem lc_23 (h : INV n A Q v M) (hi : 8 * i + 8 ≤ Ls) (hL : Ls ≤ 4096) (hd : 100 ≤ d) (K : ∀ (A : sA) (Q : sQ) (v : Nat → Nat) (M2 : dM), INV n A Q v M2 → lawW (lawP E b0 Ls xs) d mc ms lawQ 1900 (lawL i) [] M2) : lawW (lawP E b0 Ls xs) d mc ms lawQ 1334 (lawL i) [] M := by
  obtain ⟨b, M1, M2, A', Q', v', h1, h2, h3⟩ := st_settled h 
  refine gx_aload_n (i := 1) (n := 1335) ⟨by decide +kernel, rfl⟩ rfl ?_
  refine gw_callV (vs := []) (n := 1338) kmX11_settled kvX11_settled l_0 (by decide +kernel) (by decide +kernel) ⟨by decide +kernel, rfl⟩ klL_131 (ok_ax_settled  M h1) rfl rfl (by omega) (Nat.le_of_ble_eq_true rfl) rfl rfl ?_
  refine gx_aload_n (i := 2) (n := 1339) ⟨by decide +kernel, rfl⟩ rfl ?_
  refine gw_callV (vs := []) (n := 1342) kmX12_settled kvX12_settled l_66 (by decide +kernel) (by decide +kernel) ⟨by decide +kernel, rfl⟩ klL_134 (ok_mo_settled  M1 h2) rfl rfl (by omega) (Nat.le_of_ble_eq_true rfl) rfl rfl ?_
  exact gx_icmp_eq (n := 1345) (t := 1900) (off := 558) ⟨by decide +kernel, rfl, by decide⟩ (fun _ => K A' Q' v' M2 h3) (fun z => absurd rfl z)
set_option maxRecDepth 100000 in
set_option maxHeartbeats 2000000 in
theorem lc_24 (h : INV n A Q v M) (hi : 8 * i + 8 ≤ Ls) (hL : Ls ≤ 4096) (hd : 100 ≤ d) (K : ∀ (A : sA) (Q : sQ) (v : Nat → Nat) (M2 : dM), INV n A Q v M2 → lawW (lawP E b0 Ls xs) d mc ms lawQ 1900 (lawL i) [] M2) : lawW (lawP E b0 Ls xs) d mc ms lawQ 1347 (lawL i) [] M := by
  obtain ⟨b, M1, M2, A', Q', v', h1, h2, h3⟩ := st_again h (xs (8 * i + 1)) (xs (8 * i + 2))
  refine gx_aload_n (i := 1) (n := 1348) ⟨by decide +kernel, rfl⟩ rfl ?_
  refine lx_arg (i := i) 1 (by omega) hL (by decide +kernel) (by decide +kernel) (by decide +kernel) rfl (by decide +kernel) (by decide +kernel) rfl rfl ?_
  refine lx_arg (i := i) 2 (by omega) hL (by decide +kernel) (by decide +kernel) (by decide +kernel) rfl (by decide +kernel) (by decide +kernel) rfl rfl ?_
  refine gw_callV (vs := [.int (xs (8 * i + 1)), .int (xs (8 * i + 2))]) (n := 1363) kmX11_again kvX11_again l_0 (by decide +kernel) (by decide +kernel) ⟨by decide +kernel, rfl⟩ klL_135 (ok_ax_again (xs (8 * i + 1)) (xs (8 * i + 2)) M h1) rfl rfl (by omega) (Nat.le_of_ble_eq_true rfl) rfl rfl ?_
  refine gx_aload_n (i := 2) (n := 1364) ⟨by decide +kernel, rfl⟩ rfl ?_
  refine lx_arg (i := i) 1 (by omega) hL (by decide +kernel) (by decide +kernel) (by decide +kernel) rfl (by decide +kernel) (by decide +kernel) rfl rfl ?_
  refine lx_arg (i := i) 2 (by omega) hL (by decide +kernel) (by decide +kernel) (by decide +kernel) rfl (by decide +kernel) (by decide +kernel) rfl rfl ?_
  refine gw_callV (vs := [.int (xs (8 * i + 1)), .int (xs (8 * i + 2))]) (n := 1379) kmX12_again kvX12_again l_66 (by decide +kernel) (by decide +kernel) ⟨by decide +kernel, rfl⟩ klL_138 (ok_mo_again (xs (8 * i + 1)) (xs (8 * i + 2)) M1 h2) rfl rfl (by omega) (Nat.le_of_ble_eq_true rfl) rfl rfl ?_
  exact gx_icmp_eq (n := 1382) (t := 1900) (off := 521) ⟨by decide +kernel, rfl, by decide⟩ (fun _ => K A' Q' v' M2 h3) (fun z => absurd rfl z)
set_option maxRecDepth 100000 in
set_option maxHeartbeats 2000000 in
theorem lc_25 (h : INV n A Q v M) (hi : 8 * i + 8 ≤ Ls) (hL : Ls ≤ 4096) (hd : 100 ≤ d) (K : ∀ (A : sA) (Q : sQ) (v : Nat → Nat) (M2 : dM), INV n A Q v M2 → lawW (lawP E b0 Ls xs) d mc ms lawQ 1900 (lawL i) [] M2) : lawW (lawP E b0 Ls xs) d mc ms lawQ 1384 (lawL i) [] M := by
  obtain ⟨b, M1, M2, A', Q', v', h1, h2, h3⟩ := st_where h (xs (8 * i + 1)) (xs (8 * i + 2))
  refine gx_aload_n (i := 1) (n := 1385) ⟨by decide +kernel, rfl⟩ rfl ?_
  refine lx_arg (i := i) 1 (by omega) hL (by decide +kernel) (by decide +kernel) (by decide +kernel) rfl (by decide +kernel) (by decide +kernel) rfl rfl ?_
  refine lx_arg (i := i) 2 (by omega) hL (by decide +kernel) (by decide +kernel) (by decide +kernel) rfl (by decide +kernel) (by decide +kernel) rfl rfl ?_
  refine gw_callV (vs := [.int (xs (8 * i + 1)), .int (xs (8 * i + 2))]) (n := 1400) kmX11_where kvX11_where l_0 (by decide +kernel) (by decide +kernel) ⟨by decide +kernel, rfl⟩ klL_139 (ok_ax_where (xs (8 * i + 1)) (xs (8 * i + 2)) M h1) rfl rfl (by omega) (Nat.le_of_ble_eq_true rfl) rfl rfl ?_
  refine gx_aload_n (i := 2) (n := 1401) ⟨by decide +kernel, rfl⟩ rfl ?_
  refine lx_arg (i := i) 1 (by omega) hL (by decide +kernel) (by decide +kernel) (by decide +kernel) rfl (by decide +kernel) (by decide +kernel) rfl rfl ?_
  refine lx_arg (i := i) 2 (by omega) hL (by decide +kernel) (by decide +kernel) (by decide +kernel) rfl (by decide +kernel) (by decide +kernel) rfl rfl ?_
  refine gw_callV (vs := [.int (xs (8 * i + 1)), .int (xs (8 * i + 2))]) (n := 1416) kmX12_where kvX12_where l_66 (by decide +kernel) (by decide +kernel) ⟨by decide +kernel, rfl⟩ klL_142 (ok_mo_where (xs (8 * i + 1)) (xs (8 * i + 2)) M1 h2) rfl rfl (by omega) (Nat.le_of_ble_eq_true rfl) rfl rfl ?_
  exact gx_icmp_eq (n := 1419) (t := 1900) (off := 484) ⟨by decide +kernel, rfl, by decide⟩ (fun _ => K A' Q' v' M2 h3) (fun z => absurd rfl z)
set_option maxRecDepth 100000 in
set_option maxHeartbeats 2000000 in
theorem lc_26 (h : INV n A Q v M) (hi : 8 * i + 8 ≤ Ls) (hL : Ls ≤ 4096) (hd : 100 ≤ d) (K : ∀ (A : sA) (Q : sQ) (v : Nat → Nat) (M2 : dM), INV n A Q v M2 → lawW (lawP E b0 Ls xs) d mc ms lawQ 1900 (lawL i) [] M2) : lawW (lawP E b0 Ls xs) d mc ms lawQ 1421 (lawL i) [] M := by
  obtain ⟨b, M1, M2, A', Q', v', h1, h2, h3⟩ := st_rules h (xs (8 * i + 1))
  refine gx_aload_n (i := 1) (n := 1422) ⟨by decide +kernel, rfl⟩ rfl ?_
  refine lx_arg (i := i) 1 (by omega) hL (by decide +kernel) (by decide +kernel) (by decide +kernel) rfl (by decide +kernel) (by decide +kernel) rfl rfl ?_
  refine gw_callV (vs := [.int (xs (8 * i + 1))]) (n := 1431) kmX11_rules kvX11_rules l_0 (by decide +kernel) (by decide +kernel) ⟨by decide +kernel, rfl⟩ klL_143 (ok_ax_rules (xs (8 * i + 1)) M h1) rfl rfl (by omega) (Nat.le_of_ble_eq_true rfl) rfl rfl ?_
  refine gx_aload_n (i := 2) (n := 1432) ⟨by decide +kernel, rfl⟩ rfl ?_
  refine lx_arg (i := i) 1 (by omega) hL (by decide +kernel) (by decide +kernel) (by decide +kernel) rfl (by decide +kernel) (by decide +kernel) rfl rfl ?_
  refine gw_callV (vs := [.int (xs (8 * i + 1))]) (n := 1441) kmX12_rules kvX12_rules l_66 (by decide +kernel) (by decide +kernel) ⟨by decide +kernel, rfl⟩ klL_146 (ok_mo_rules (xs (8 * i + 1)) M1 h2) rfl rfl (by omega) (Nat.le_of_ble_eq_true rfl) rfl rfl ?_
  exact gx_icmp_eq (n := 1444) (t := 1900) (off := 459) ⟨by decide +kernel, rfl, by decide⟩ (fun _ => K A' Q' v' M2 h3) (fun z => absurd rfl z)
set_option maxRecDepth 100000 in
set_option maxHeartbeats 2000000 in
theorem lc_27 (h : INV n A Q v M) (hi : 8 * i + 8 ≤ Ls) (hL : Ls ≤ 4096) (hd : 100 ≤ d) (K : ∀ (A : sA) (Q : sQ) (v : Nat → Nat) (M2 : dM), INV n A Q v M2 → lawW (lawP E b0 Ls xs) d mc ms lawQ 1900 (lawL i) [] M2) : lawW (lawP E b0 Ls xs) d mc ms lawQ 1446 (lawL i) [] M := by
  obtain ⟨b, M1, M2, A', Q', v', h1, h2, h3⟩ := st_paper h (xs (8 * i + 1))
  refine gx_aload_n (i := 1) (n := 1447) ⟨by decide +kernel, rfl⟩ rfl ?_
  refine lx_arg (i := i) 1 (by omega) hL (by decide +kernel) (by decide +kernel) (by decide +kernel) rfl (by decide +kernel) (by decide +kernel) rfl rfl ?_
  refine gw_callV (vs := [.int (xs (8 * i + 1))]) (n := 1456) kmX11_paper kvX11_paper l_0 (by decide +kernel) (by decide +kernel) ⟨by decide +kernel, rfl⟩ klL_147 (ok_ax_paper (xs (8 * i + 1)) M h1) rfl rfl (by omega) (Nat.le_of_ble_eq_true rfl) rfl rfl ?_
  refine gx_aload_n (i := 2) (n := 1457) ⟨by decide +kernel, rfl⟩ rfl ?_
  refine lx_arg (i := i) 1 (by omega) hL (by decide +kernel) (by decide +kernel) (by decide +kernel) rfl (by decide +kernel) (by decide +kernel) rfl rfl ?_
  refine gw_callV (vs := [.int (xs (8 * i + 1))]) (n := 1466) kmX12_paper kvX12_paper l_66 (by decide +kernel) (by decide +kernel) ⟨by decide +kernel, rfl⟩ klL_151 (ok_mo_paper (xs (8 * i + 1)) M1 h2) rfl rfl (by omega) (Nat.le_of_ble_eq_true rfl) rfl rfl ?_
  exact gx_icmp_eq (n := 1469) (t := 1900) (off := 434) ⟨by decide +kernel, rfl, by decide⟩ (fun _ => K A' Q' v' M2 h3) (fun z => absurd rfl z)
set_option maxRecDepth 100000 in
set_option maxHeartbeats 2000000 in
theorem lc_28 (h : INV n A Q v M) (hi : 8 * i + 8 ≤ Ls) (hL : Ls ≤ 4096) (hd : 100 ≤ d) (K : ∀ (A : sA) (Q : sQ) (v : Nat → Nat) (M2 : dM), INV n A Q v M2 → lawW (lawP E b0 Ls xs) d mc ms lawQ 1900 (lawL i) [] M2) : lawW (lawP E b0 Ls xs) d mc ms lawQ 1471 (lawL i) [] M := by
  obtain ⟨b, M1, M2, A', Q', v', h1, h2, h3⟩ := st_enough h 
  refine gx_aload_n (i := 1) (n := 1472) ⟨by decide +kernel, rfl⟩ rfl ?_
  refine gw_callV (vs := []) (n := 1475) kmX11_enough kvX11_enough l_0 (by decide +kernel) (by decide +kernel) ⟨by decide +kernel, rfl⟩ klL_152 (ok_ax_enough  M h1) rfl rfl (by omega) (Nat.le_of_ble_eq_true rfl) rfl rfl ?_
  refine gx_aload_n (i := 2) (n := 1476) ⟨by decide +kernel, rfl⟩ rfl ?_
  refine gw_callV (vs := []) (n := 1479) kmX12_enough kvX12_enough l_66 (by decide +kernel) (by decide +kernel) ⟨by decide +kernel, rfl⟩ klL_155 (ok_mo_enough  M1 h2) rfl rfl (by omega) (Nat.le_of_ble_eq_true rfl) rfl rfl ?_
  exact gx_icmp_eq (n := 1482) (t := 1900) (off := 421) ⟨by decide +kernel, rfl, by decide⟩ (fun _ => K A' Q' v' M2 h3) (fun z => absurd rfl z)
set_option maxRecDepth 100000 in
set_option maxHeartbeats 2000000 in
theorem lc_29 (hn : n < 2147483647) (h : INV n A Q v M) (hi : 8 * i + 8 ≤ Ls) (hL : Ls ≤ 4096) (hd : 100 ≤ d) (K : ∀ (A : sA) (Q : sQ) (v : Nat → Nat) (M2 : dM), INV (n + 1) A Q v M2 → lawW (lawP E b0 Ls xs) d mc ms lawQ 1900 (lawL i) [] M2) : lawW (lawP E b0 Ls xs) d mc ms lawQ 1484 (lawL i) [] M := by
  by_cases c0 : xs (8 * i + 2) = 0
  · obtain ⟨b, M1, M2, A', Q', v', h1, h2, h3⟩ := st_mark h hn (xs (8 * i + 1)) (bk := nI 0) (Or.inl rfl)
    refine gx_aload_n (i := 1) (n := 1485) ⟨by decide +kernel, rfl⟩ rfl ?_
    refine lx_arg (i := i) 1 (by omega) hL (by decide +kernel) (by decide +kernel) (by decide +kernel) rfl (by decide +kernel) (by decide +kernel) rfl rfl ?_
    refine lx_arg (i := i) 2 (by omega) hL (by decide +kernel) (by decide +kernel) (by decide +kernel) rfl (by decide +kernel) (by decide +kernel) rfl rfl ?_
    refine gx_if_eq (n := 1500) (t := 1504) (off := 7) ⟨by decide +kernel, rfl, by decide⟩ (fun _ => ?_) (fun z => absurd c0 z)
    refine gx_iconst (i := 0) (v := nI 0) (n := 1505) ⟨by decide +kernel, rfl⟩ (by decide) ?_
    refine gw_callV (vs := [.int (xs (8 * i + 1)), .int (nI 0)]) (n := 1508) kmX11_mark kvX11_mark l_0 (by decide +kernel) (by decide +kernel) ⟨by decide +kernel, rfl⟩ klL_156 (ok_ax_mark (xs (8 * i + 1)) (nI 0) M h1) rfl rfl (by omega) (Nat.le_of_ble_eq_true rfl) rfl rfl ?_
    refine gx_aload_n (i := 2) (n := 1509) ⟨by decide +kernel, rfl⟩ rfl ?_
    refine lx_arg (i := i) 1 (by omega) hL (by decide +kernel) (by decide +kernel) (by decide +kernel) rfl (by decide +kernel) (by decide +kernel) rfl rfl ?_
    refine lx_arg (i := i) 2 (by omega) hL (by decide +kernel) (by decide +kernel) (by decide +kernel) rfl (by decide +kernel) (by decide +kernel) rfl rfl ?_
    refine gx_if_eq (n := 1524) (t := 1528) (off := 7) ⟨by decide +kernel, rfl, by decide⟩ (fun _ => ?_) (fun z => absurd c0 z)
    refine gx_iconst (i := 0) (v := nI 0) (n := 1529) ⟨by decide +kernel, rfl⟩ (by decide) ?_
    refine gw_callV (vs := [.int (xs (8 * i + 1)), .int (nI 0)]) (n := 1532) kmX12_mark kvX12_mark l_66 (by decide +kernel) (by decide +kernel) ⟨by decide +kernel, rfl⟩ klL_160 (ok_mo_mark (xs (8 * i + 1)) (nI 0) M1 h2) rfl rfl (by omega) (Nat.le_of_ble_eq_true rfl) rfl rfl ?_
    exact gx_icmp_eq (n := 1535) (t := 1900) (off := 368) ⟨by decide +kernel, rfl, by decide⟩ (fun _ => K A' Q' v' M2 h3) (fun z => absurd rfl z)
  · obtain ⟨b, M1, M2, A', Q', v', h1, h2, h3⟩ := st_mark h hn (xs (8 * i + 1)) (bk := nI 1) (Or.inr rfl)
    refine gx_aload_n (i := 1) (n := 1485) ⟨by decide +kernel, rfl⟩ rfl ?_
    refine lx_arg (i := i) 1 (by omega) hL (by decide +kernel) (by decide +kernel) (by decide +kernel) rfl (by decide +kernel) (by decide +kernel) rfl rfl ?_
    refine lx_arg (i := i) 2 (by omega) hL (by decide +kernel) (by decide +kernel) (by decide +kernel) rfl (by decide +kernel) (by decide +kernel) rfl rfl ?_
    refine gx_if_eq (n := 1500) (t := 1504) (off := 7) ⟨by decide +kernel, rfl, by decide⟩ (fun z => absurd z c0) (fun _ => ?_)
    refine gx_iconst (i := 1) (v := nI 1) (n := 1501) ⟨by decide +kernel, rfl⟩ (by decide) ?_
    refine gx_goto (t := 1505) (off := 4) ⟨by decide +kernel, rfl, by decide⟩ ?_
    refine gw_callV (vs := [.int (xs (8 * i + 1)), .int (nI 1)]) (n := 1508) kmX11_mark kvX11_mark l_0 (by decide +kernel) (by decide +kernel) ⟨by decide +kernel, rfl⟩ klL_156 (ok_ax_mark (xs (8 * i + 1)) (nI 1) M h1) rfl rfl (by omega) (Nat.le_of_ble_eq_true rfl) rfl rfl ?_
    refine gx_aload_n (i := 2) (n := 1509) ⟨by decide +kernel, rfl⟩ rfl ?_
    refine lx_arg (i := i) 1 (by omega) hL (by decide +kernel) (by decide +kernel) (by decide +kernel) rfl (by decide +kernel) (by decide +kernel) rfl rfl ?_
    refine lx_arg (i := i) 2 (by omega) hL (by decide +kernel) (by decide +kernel) (by decide +kernel) rfl (by decide +kernel) (by decide +kernel) rfl rfl ?_
    refine gx_if_eq (n := 1524) (t := 1528) (off := 7) ⟨by decide +kernel, rfl, by decide⟩ (fun z => absurd z c0) (fun _ => ?_)
    refine gx_iconst (i := 1) (v := nI 1) (n := 1525) ⟨by decide +kernel, rfl⟩ (by decide) ?_
    refine gx_goto (t := 1529) (off := 4) ⟨by decide +kernel, rfl, by decide⟩ ?_
    refine gw_callV (vs := [.int (xs (8 * i + 1)), .int (nI 1)]) (n := 1532) kmX12_mark kvX12_mark l_66 (by decide +kernel) (by decide +kernel) ⟨by decide +kernel, rfl⟩ klL_160 (ok_mo_mark (xs (8 * i + 1)) (nI 1) M1 h2) rfl rfl (by omega) (Nat.le_of_ble_eq_true rfl) rfl rfl ?_
    exact gx_icmp_eq (n := 1535) (t := 1900) (off := 368) ⟨by decide +kernel, rfl, by decide⟩ (fun _ => K A' Q' v' M2 h3) (fun z => absurd rfl z)
set_option maxRecDepth 100000 in
set_option maxHeartbeats 2000000 in
theorem lc_30 (h : INV n A Q v M) (hi : 8 * i + 8 ≤ Ls) (hL : Ls ≤ 4096) (hd : 100 ≤ d) (K : ∀ (A : sA) (Q : sQ) (v : Nat → Nat) (M2 : dM), INV n A Q v M2 → lawW (lawP E b0 Ls xs) d mc ms lawQ 1900 (lawL i) [] M2) : lawW (lawP E b0 Ls xs) d mc ms lawQ 1537 (lawL i) [] M := by
  obtain ⟨b, M1, M2, A', Q', v', h1, h2, h3⟩ := st_skill h (xs (8 * i + 1)) (xs (8 * i + 2)) (xs (8 * i + 3))
  refine gx_aload_n (i := 1) (n := 1538) ⟨by decide +kernel, rfl⟩ rfl ?_
  refine lx_arg (i := i) 1 (by omega) hL (by decide +kernel) (by decide +kernel) (by decide +kernel) rfl (by decide +kernel) (by decide +kernel) rfl rfl ?_
  refine lx_arg (i := i) 2 (by omega) hL (by decide +kernel) (by decide +kernel) (by decide +kernel) rfl (by decide +kernel) (by decide +kernel) rfl rfl ?_
  refine lx_arg (i := i) 3 (by omega) hL (by decide +kernel) (by decide +kernel) (by decide +kernel) rfl (by decide +kernel) (by decide +kernel) rfl rfl ?_
  refine gw_callV (vs := [.int (xs (8 * i + 1)), .int (xs (8 * i + 2)), .int (xs (8 * i + 3))]) (n := 1559) kmX11_skill kvX11_skill l_0 (by decide +kernel) (by decide +kernel) ⟨by decide +kernel, rfl⟩ klL_161 (ok_ax_skill (xs (8 * i + 1)) (xs (8 * i + 2)) (xs (8 * i + 3)) M h1) rfl rfl (by omega) (Nat.le_of_ble_eq_true rfl) rfl rfl ?_
  refine gx_aload_n (i := 2) (n := 1560) ⟨by decide +kernel, rfl⟩ rfl ?_
  refine lx_arg (i := i) 1 (by omega) hL (by decide +kernel) (by decide +kernel) (by decide +kernel) rfl (by decide +kernel) (by decide +kernel) rfl rfl ?_
  refine lx_arg (i := i) 2 (by omega) hL (by decide +kernel) (by decide +kernel) (by decide +kernel) rfl (by decide +kernel) (by decide +kernel) rfl rfl ?_
  refine lx_arg (i := i) 3 (by omega) hL (by decide +kernel) (by decide +kernel) (by decide +kernel) rfl (by decide +kernel) (by decide +kernel) rfl rfl ?_
  refine gw_callV (vs := [.int (xs (8 * i + 1)), .int (xs (8 * i + 2)), .int (xs (8 * i + 3))]) (n := 1581) kmX12_skill kvX12_skill l_66 (by decide +kernel) (by decide +kernel) ⟨by decide +kernel, rfl⟩ klL_164 (ok_mo_skill (xs (8 * i + 1)) (xs (8 * i + 2)) (xs (8 * i + 3)) M1 h2) rfl rfl (by omega) (Nat.le_of_ble_eq_true rfl) rfl rfl ?_
  exact gx_icmp_eq (n := 1584) (t := 1900) (off := 319) ⟨by decide +kernel, rfl, by decide⟩ (fun _ => K A' Q' v' M2 h3) (fun z => absurd rfl z)
set_option maxRecDepth 100000 in
set_option maxHeartbeats 2000000 in
theorem lc_31 (h : INV n A Q v M) (hi : 8 * i + 8 ≤ Ls) (hL : Ls ≤ 4096) (hd : 100 ≤ d) (K : ∀ (A : sA) (Q : sQ) (v : Nat → Nat) (M2 : dM), INV n A Q v M2 → lawW (lawP E b0 Ls xs) d mc ms lawQ 1900 (lawL i) [] M2) : lawW (lawP E b0 Ls xs) d mc ms lawQ 1586 (lawL i) [] M := by
  obtain ⟨b, M1, M2, A', Q', v', h1, h2, h3⟩ := st_wealth h (xs (8 * i + 1)) (xs (8 * i + 2)) (xs (8 * i + 3))
  refine gx_aload_n (i := 1) (n := 1587) ⟨by decide +kernel, rfl⟩ rfl ?_
  refine lx_arg (i := i) 1 (by omega) hL (by decide +kernel) (by decide +kernel) (by decide +kernel) rfl (by decide +kernel) (by decide +kernel) rfl rfl ?_
  refine lx_arg (i := i) 2 (by omega) hL (by decide +kernel) (by decide +kernel) (by decide +kernel) rfl (by decide +kernel) (by decide +kernel) rfl rfl ?_
  refine lx_arg (i := i) 3 (by omega) hL (by decide +kernel) (by decide +kernel) (by decide +kernel) rfl (by decide +kernel) (by decide +kernel) rfl rfl ?_
  refine gw_callV (vs := [.int (xs (8 * i + 1)), .int (xs (8 * i + 2)), .int (xs (8 * i + 3))]) (n := 1608) kmX11_wealth kvX11_wealth l_0 (by decide +kernel) (by decide +kernel) ⟨by decide +kernel, rfl⟩ klL_165 (ok_ax_wealth (xs (8 * i + 1)) (xs (8 * i + 2)) (xs (8 * i + 3)) M h1) rfl rfl (by omega) (Nat.le_of_ble_eq_true rfl) rfl rfl ?_
  refine gx_aload_n (i := 2) (n := 1609) ⟨by decide +kernel, rfl⟩ rfl ?_
  refine lx_arg (i := i) 1 (by omega) hL (by decide +kernel) (by decide +kernel) (by decide +kernel) rfl (by decide +kernel) (by decide +kernel) rfl rfl ?_
  refine lx_arg (i := i) 2 (by omega) hL (by decide +kernel) (by decide +kernel) (by decide +kernel) rfl (by decide +kernel) (by decide +kernel) rfl rfl ?_
  refine lx_arg (i := i) 3 (by omega) hL (by decide +kernel) (by decide +kernel) (by decide +kernel) rfl (by decide +kernel) (by decide +kernel) rfl rfl ?_
  refine gw_callV (vs := [.int (xs (8 * i + 1)), .int (xs (8 * i + 2)), .int (xs (8 * i + 3))]) (n := 1630) kmX12_wealth kvX12_wealth l_66 (by decide +kernel) (by decide +kernel) ⟨by decide +kernel, rfl⟩ klL_168 (ok_mo_wealth (xs (8 * i + 1)) (xs (8 * i + 2)) (xs (8 * i + 3)) M1 h2) rfl rfl (by omega) (Nat.le_of_ble_eq_true rfl) rfl rfl ?_
  exact gx_icmp_eq (n := 1633) (t := 1900) (off := 270) ⟨by decide +kernel, rfl, by decide⟩ (fun _ => K A' Q' v' M2 h3) (fun z => absurd rfl z)
set_option maxRecDepth 100000 in
set_option maxHeartbeats 2000000 in
theorem lc_32 (h : INV n A Q v M) (hi : 8 * i + 8 ≤ Ls) (hL : Ls ≤ 4096) (hd : 100 ≤ d) (K : ∀ (A : sA) (Q : sQ) (v : Nat → Nat) (M2 : dM), INV n A Q v M2 → lawW (lawP E b0 Ls xs) d mc ms lawQ 1900 (lawL i) [] M2) : lawW (lawP E b0 Ls xs) d mc ms lawQ 1635 (lawL i) [] M := by
  obtain ⟨b, M1, M2, A', Q', v', h1, h2, h3⟩ := st_shows h (xs (8 * i + 1)) (xs (8 * i + 2)) (xs (8 * i + 3))
  refine gx_aload_n (i := 1) (n := 1636) ⟨by decide +kernel, rfl⟩ rfl ?_
  refine lx_arg (i := i) 1 (by omega) hL (by decide +kernel) (by decide +kernel) (by decide +kernel) rfl (by decide +kernel) (by decide +kernel) rfl rfl ?_
  refine lx_arg (i := i) 2 (by omega) hL (by decide +kernel) (by decide +kernel) (by decide +kernel) rfl (by decide +kernel) (by decide +kernel) rfl rfl ?_
  refine lx_arg (i := i) 3 (by omega) hL (by decide +kernel) (by decide +kernel) (by decide +kernel) rfl (by decide +kernel) (by decide +kernel) rfl rfl ?_
  refine gw_callV (vs := [.int (xs (8 * i + 1)), .int (xs (8 * i + 2)), .int (xs (8 * i + 3))]) (n := 1657) kmX11_shows kvX11_shows l_0 (by decide +kernel) (by decide +kernel) ⟨by decide +kernel, rfl⟩ klL_169 (ok_ax_shows (xs (8 * i + 1)) (xs (8 * i + 2)) (xs (8 * i + 3)) M h1) rfl rfl (by omega) (Nat.le_of_ble_eq_true rfl) rfl rfl ?_
  refine gx_aload_n (i := 2) (n := 1658) ⟨by decide +kernel, rfl⟩ rfl ?_
  refine lx_arg (i := i) 1 (by omega) hL (by decide +kernel) (by decide +kernel) (by decide +kernel) rfl (by decide +kernel) (by decide +kernel) rfl rfl ?_
  refine lx_arg (i := i) 2 (by omega) hL (by decide +kernel) (by decide +kernel) (by decide +kernel) rfl (by decide +kernel) (by decide +kernel) rfl rfl ?_
  refine lx_arg (i := i) 3 (by omega) hL (by decide +kernel) (by decide +kernel) (by decide +kernel) rfl (by decide +kernel) (by decide +kernel) rfl rfl ?_
  refine gw_callV (vs := [.int (xs (8 * i + 1)), .int (xs (8 * i + 2)), .int (xs (8 * i + 3))]) (n := 1679) kmX12_shows kvX12_shows l_66 (by decide +kernel) (by decide +kernel) ⟨by decide +kernel, rfl⟩ klL_172 (ok_mo_shows (xs (8 * i + 1)) (xs (8 * i + 2)) (xs (8 * i + 3)) M1 h2) rfl rfl (by omega) (Nat.le_of_ble_eq_true rfl) rfl rfl ?_
  exact gx_icmp_eq (n := 1682) (t := 1900) (off := 221) ⟨by decide +kernel, rfl, by decide⟩ (fun _ => K A' Q' v' M2 h3) (fun z => absurd rfl z)
set_option maxRecDepth 100000 in
set_option maxHeartbeats 2000000 in
theorem lc_33 (h : INV n A Q v M) (hi : 8 * i + 8 ≤ Ls) (hL : Ls ≤ 4096) (hd : 100 ≤ d) (K : ∀ (A : sA) (Q : sQ) (v : Nat → Nat) (M2 : dM), INV n A Q v M2 → lawW (lawP E b0 Ls xs) d mc ms lawQ 1900 (lawL i) [] M2) : lawW (lawP E b0 Ls xs) d mc ms lawQ 1684 (lawL i) [] M := by
  obtain ⟨b, M1, M2, A', Q', v', h1, h2, h3⟩ := st_world h (xs (8 * i + 1)) (xs (8 * i + 2))
  refine gx_aload_n (i := 1) (n := 1685) ⟨by decide +kernel, rfl⟩ rfl ?_
  refine lx_arg (i := i) 1 (by omega) hL (by decide +kernel) (by decide +kernel) (by decide +kernel) rfl (by decide +kernel) (by decide +kernel) rfl rfl ?_
  refine lx_arg (i := i) 2 (by omega) hL (by decide +kernel) (by decide +kernel) (by decide +kernel) rfl (by decide +kernel) (by decide +kernel) rfl rfl ?_
  refine gw_callV (vs := [.int (xs (8 * i + 1)), .int (xs (8 * i + 2))]) (n := 1700) kmX11_world kvX11_world l_0 (by decide +kernel) (by decide +kernel) ⟨by decide +kernel, rfl⟩ klL_173 (ok_ax_world (xs (8 * i + 1)) (xs (8 * i + 2)) M h1) rfl rfl (by omega) (Nat.le_of_ble_eq_true rfl) rfl rfl ?_
  refine gx_aload_n (i := 2) (n := 1701) ⟨by decide +kernel, rfl⟩ rfl ?_
  refine lx_arg (i := i) 1 (by omega) hL (by decide +kernel) (by decide +kernel) (by decide +kernel) rfl (by decide +kernel) (by decide +kernel) rfl rfl ?_
  refine lx_arg (i := i) 2 (by omega) hL (by decide +kernel) (by decide +kernel) (by decide +kernel) rfl (by decide +kernel) (by decide +kernel) rfl rfl ?_
  refine gw_callV (vs := [.int (xs (8 * i + 1)), .int (xs (8 * i + 2))]) (n := 1716) kmX12_world kvX12_world l_66 (by decide +kernel) (by decide +kernel) ⟨by decide +kernel, rfl⟩ klL_176 (ok_mo_world (xs (8 * i + 1)) (xs (8 * i + 2)) M1 h2) rfl rfl (by omega) (Nat.le_of_ble_eq_true rfl) rfl rfl ?_
  exact gx_icmp_eq (n := 1719) (t := 1900) (off := 184) ⟨by decide +kernel, rfl, by decide⟩ (fun _ => K A' Q' v' M2 h3) (fun z => absurd rfl z)
set_option maxRecDepth 100000 in
set_option maxHeartbeats 2000000 in
theorem lc_34 (h : INV n A Q v M) (hi : 8 * i + 8 ≤ Ls) (hL : Ls ≤ 4096) (hd : 100 ≤ d) (K : ∀ (A : sA) (Q : sQ) (v : Nat → Nat) (M2 : dM), INV n A Q v M2 → lawW (lawP E b0 Ls xs) d mc ms lawQ 1900 (lawL i) [] M2) : lawW (lawP E b0 Ls xs) d mc ms lawQ 1721 (lawL i) [] M := by
  obtain ⟨b, M1, M2, A', Q', v', h1, h2, h3⟩ := st_found h (xs (8 * i + 1)) (xs (8 * i + 2)) (xs (8 * i + 3))
  refine gx_aload_n (i := 1) (n := 1722) ⟨by decide +kernel, rfl⟩ rfl ?_
  refine lx_arg (i := i) 1 (by omega) hL (by decide +kernel) (by decide +kernel) (by decide +kernel) rfl (by decide +kernel) (by decide +kernel) rfl rfl ?_
  refine lx_arg (i := i) 2 (by omega) hL (by decide +kernel) (by decide +kernel) (by decide +kernel) rfl (by decide +kernel) (by decide +kernel) rfl rfl ?_
  refine lx_arg (i := i) 3 (by omega) hL (by decide +kernel) (by decide +kernel) (by decide +kernel) rfl (by decide +kernel) (by decide +kernel) rfl rfl ?_
  refine gw_callV (vs := [.int (xs (8 * i + 1)), .int (xs (8 * i + 2)), .int (xs (8 * i + 3))]) (n := 1743) kmX11_found kvX11_found l_0 (by decide +kernel) (by decide +kernel) ⟨by decide +kernel, rfl⟩ klL_177 (ok_ax_found (xs (8 * i + 1)) (xs (8 * i + 2)) (xs (8 * i + 3)) M h1) rfl rfl (by omega) (Nat.le_of_ble_eq_true rfl) rfl rfl ?_
  refine gx_aload_n (i := 2) (n := 1744) ⟨by decide +kernel, rfl⟩ rfl ?_
  refine lx_arg (i := i) 1 (by omega) hL (by decide +kernel) (by decide +kernel) (by decide +kernel) rfl (by decide +kernel) (by decide +kernel) rfl rfl ?_
  refine lx_arg (i := i) 2 (by omega) hL (by decide +kernel) (by decide +kernel) (by decide +kernel) rfl (by decide +kernel) (by decide +kernel) rfl rfl ?_
  refine lx_arg (i := i) 3 (by omega) hL (by decide +kernel) (by decide +kernel) (by decide +kernel) rfl (by decide +kernel) (by decide +kernel) rfl rfl ?_
  refine gw_callV (vs := [.int (xs (8 * i + 1)), .int (xs (8 * i + 2)), .int (xs (8 * i + 3))]) (n := 1765) kmX12_found kvX12_found l_66 (by decide +kernel) (by decide +kernel) ⟨by decide +kernel, rfl⟩ klL_180 (ok_mo_found (xs (8 * i + 1)) (xs (8 * i + 2)) (xs (8 * i + 3)) M1 h2) rfl rfl (by omega) (Nat.le_of_ble_eq_true rfl) rfl rfl ?_
  exact gx_icmp_eq (n := 1768) (t := 1900) (off := 135) ⟨by decide +kernel, rfl, by decide⟩ (fun _ => K A' Q' v' M2 h3) (fun z => absurd rfl z)
set_option maxRecDepth 100000 in
set_option maxHeartbeats 2000000 in
theorem lc_35 (h : INV n A Q v M) (hi : 8 * i + 8 ≤ Ls) (hL : Ls ≤ 4096) (hd : 100 ≤ d) (K : ∀ (A : sA) (Q : sQ) (v : Nat → Nat) (M2 : dM), INV n A Q v M2 → lawW (lawP E b0 Ls xs) d mc ms lawQ 1900 (lawL i) [] M2) : lawW (lawP E b0 Ls xs) d mc ms lawQ 1770 (lawL i) [] M := by
  obtain ⟨b, M1, M2, A', Q', v', h1, h2, h3⟩ := st_rates h (xs (8 * i + 1)) (xs (8 * i + 2))
  refine gx_aload_n (i := 1) (n := 1771) ⟨by decide +kernel, rfl⟩ rfl ?_
  refine lx_arg (i := i) 1 (by omega) hL (by decide +kernel) (by decide +kernel) (by decide +kernel) rfl (by decide +kernel) (by decide +kernel) rfl rfl ?_
  refine lx_arg (i := i) 2 (by omega) hL (by decide +kernel) (by decide +kernel) (by decide +kernel) rfl (by decide +kernel) (by decide +kernel) rfl rfl ?_
  refine gw_callV (vs := [.int (xs (8 * i + 1)), .int (xs (8 * i + 2))]) (n := 1786) kmX11_rates kvX11_rates l_0 (by decide +kernel) (by decide +kernel) ⟨by decide +kernel, rfl⟩ klL_181 (ok_ax_rates (xs (8 * i + 1)) (xs (8 * i + 2)) M h1) rfl rfl (by omega) (Nat.le_of_ble_eq_true rfl) rfl rfl ?_
  refine gx_aload_n (i := 2) (n := 1787) ⟨by decide +kernel, rfl⟩ rfl ?_
  refine lx_arg (i := i) 1 (by omega) hL (by decide +kernel) (by decide +kernel) (by decide +kernel) rfl (by decide +kernel) (by decide +kernel) rfl rfl ?_
  refine lx_arg (i := i) 2 (by omega) hL (by decide +kernel) (by decide +kernel) (by decide +kernel) rfl (by decide +kernel) (by decide +kernel) rfl rfl ?_
  refine gw_callV (vs := [.int (xs (8 * i + 1)), .int (xs (8 * i + 2))]) (n := 1802) kmX12_rates kvX12_rates l_66 (by decide +kernel) (by decide +kernel) ⟨by decide +kernel, rfl⟩ klL_184 (ok_mo_rates (xs (8 * i + 1)) (xs (8 * i + 2)) M1 h2) rfl rfl (by omega) (Nat.le_of_ble_eq_true rfl) rfl rfl ?_
  exact gx_icmp_eq (n := 1805) (t := 1900) (off := 98) ⟨by decide +kernel, rfl, by decide⟩ (fun _ => K A' Q' v' M2 h3) (fun z => absurd rfl z)
set_option maxRecDepth 100000 in
set_option maxHeartbeats 2000000 in
theorem lc_37 (h : INV n A Q v M) (hi : 8 * i + 8 ≤ Ls) (hL : Ls ≤ 4096) (hd : 100 ≤ d) (K : ∀ (A : sA) (Q : sQ) (v : Nat → Nat) (M2 : dM), INV n A Q v M2 → lawW (lawP E b0 Ls xs) d mc ms lawQ 1900 (lawL i) [] M2) : lawW (lawP E b0 Ls xs) d mc ms lawQ 1875 (lawL i) [] M := by
  obtain ⟨b, M2, A', Q', v', h1, h2, h3⟩ := st_count h (xs (8 * i + 1))
  refine gx_aload_n (i := 1) (n := 1876) ⟨by decide +kernel, rfl⟩ rfl ?_
  refine lx_arg (i := i) 1 (by omega) hL (by decide +kernel) (by decide +kernel) (by decide +kernel) rfl (by decide +kernel) (by decide +kernel) rfl rfl ?_
  refine gw_callV (vs := [.int (xs (8 * i + 1))]) (n := 1885) kmX11_count kvX11_count l_0 (by decide +kernel) (by decide +kernel) ⟨by decide +kernel, rfl⟩ klL_188 (ok_ax_count (xs (8 * i + 1)) M h1) rfl rfl (by omega) (Nat.le_of_ble_eq_true rfl) rfl rfl ?_
  refine gx_aload_n (i := 2) (n := 1886) ⟨by decide +kernel, rfl⟩ rfl ?_
  refine lx_arg (i := i) 1 (by omega) hL (by decide +kernel) (by decide +kernel) (by decide +kernel) rfl (by decide +kernel) (by decide +kernel) rfl rfl ?_
  refine gw_callV (vs := [.int (xs (8 * i + 1))]) (n := 1895) kmX12_count kvX12_count l_66 (by decide +kernel) (by decide +kernel) ⟨by decide +kernel, rfl⟩ klL_191 (ok_mo_count (xs (8 * i + 1)) M h2) rfl rfl (by omega) (Nat.le_of_ble_eq_true rfl) rfl rfl ?_
  exact gx_icmp_eq (n := 1898) (t := 1900) (off := 5) ⟨by decide +kernel, rfl, by decide⟩ (fun _ => K A' Q' v' M2 h3) (fun z => absurd rfl z)
end LAWC
