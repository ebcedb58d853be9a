set_option maxHeartbeats 16000000 in
set_option maxRecDepth 100000 in
/-- the constructor behind its fields: heads are -1, the symbols are said -/
theorem init_rest {p : Program} {l : Launch} {e : Env} {s : State} {m : MethodId} {args : Array Value} {below : List Frame} {meth : Method} {c : Code} {H : Heap} {locs : List Loc} {cells slots : Nat} {Q : State → Prop} {A : Nat → Prop} {H0 : Heap} {D : va_G} {ca : Nat → ClassId} {h0 : Nat} {ad : Nat → Nat} {ls : Array Slot} (hx : p.tables.exec = Jvm.exec) (hb : c.code = cX12_init) (htz : ∀ w ∈ wsZ, w.before args s = true) (hown : s.vm.findClass RX12 = some m.cls) (hml : c.maxLocals = 2) (hA : ∀ q : Nat, H0.size ≤ q → A q) (hK : va_K D vwCl (mTy ca) s) (hP : va_P D vwCl (mCl ca h0 ad mU0) H) (hD : va_D A (mCl ca h0 ad mU0)) (hS : va_S A H0 H locs) (hl : lv_has ls 2 [(0, .ref h0)]) (hc9 : cells ≤ 93) (hs9 : slots ≤ 2737036) (kk : ∀ (w : iST) (H : Heap) (locs : List Loc) (ls : Array Slot), (SN 44 w ∧ iR w) → va_P D vwCl (mCl ca h0 ad (toM w)) H → va_D A (mCl ca h0 ad (toM w)) → va_S A H0 H locs → lv_has ls 2 [(0, .ref h0)] → W p l e (({ frames := 3, cells := 93, slots := 2737036, locals := 76 }) : Room) s m args below meth c H locs cells slots Q (F0 m 1537 ls [])) : W p l e (({ frames := 3, cells := 93, slots := 2737036, locals := 76 }) : Room) s m args below meth c H locs cells slots Q (F0 m 811 ls []) := by
  have hts : ∀ w ∈ wsX12_init, w.before args s = true := fun w h => htz w (zI h)
  have L_heads := hts _ ww_f7
  have hin : ∀ w ∈ wsX120, w ∈ wsX12_init := ww_all
  refine lv_iconst hx hb dX12_init_811 (v := 0) rfl ?_
  refine lv_istore_n hx hb dX12_init_812 rfl hl (by decide) rfl (fun ls hl => ?_)
  have hl : lv_has ls 2 [(1, .int (0)), (0, .ref (h0))] := hl
  refine w_loopS (nL := 2) (sta := fun q : mST × Nat => q.1) (lst := fun q : mST × Nat => [(1, .int (nI q.2)), (0, .ref h0)]) (μ := fun q => 8192 - q.2) (I := fun q => q.2 ≤ 8192 ∧ q.1.1 = mU0.1 ∧ (∀ h : Nat, h < q.2 → q.1.2.1 7 h = -1) ∧ (∀ g : Nat, g ≠ 7 → q.1.2.1 g = mU0.2.1 g) ∧ q.1.2.2 = mU0.2.2) ?_ (mU0, 0) ls ⟨Nat.zero_le _, rfl, fun h hh => absurd hh (Nat.not_lt_zero _), fun _ _ => rfl, rfl⟩ hP hD hS hl
  clear hP hD hS hl
  intro q H locs ls hI hP hD hS hl ih
  obtain ⟨w, j⟩ := q
  obtain ⟨hI1, hI2, hI3, hI4, hI5⟩ := hI
  dsimp only at hI1 hI2 hI3 hI4 hI5 hP hD
  have hl : lv_has ls 2 [(1, .int (nI j)), (0, .ref (h0))] := hl
  refine lv_iload_n hx hb dX12_init_813 rfl (lv_at hl 0 rfl) ?_
  refine lv_sipush hx hb dX12_init_814 (v := 8192) rfl ?_
  refine lv_icmp_ge hx hb dX12_init_817 (tgt := 833) rfl (fun h1 => ?_) (fun h1 => ?_)
  · have hj : j = 8192 := by
      rcases Nat.lt_or_ge j 8192 with h | h
      · exact absurd h1 (nI_ge h (by decide))
      · omega
    subst hj
    obtain ⟨u0, e0, hN0, hR0⟩ := init_u hI2 hI3 hI4 hI5
    subst e0
    have X : CallFix p m c cX12_init 2 s args wsZ RX12 := ⟨hx, hb, hml, hown, htz⟩
    have hw : kW D ca A h0 ad H0 H locs u0 := ⟨hP, hD, hS, hR0, hA⟩
    clear hI1 hI2 hI3 hI4 hI5 ih hP hD hS
    refine lv_aload_n hx hb dX12_init_833 rfl (lv_at hl 1 rfl) ?_
    refine lv_bipush hx hb dX12_init_834 (v := jI 110) rfl ?_
    refine lv_bipush hx hb dX12_init_836 (v := jI 105) rfl ?_
    refine lv_bipush hx hb dX12_init_838 (v := jI 108) rfl ?_
    refine lv_iconst hx hb dX12_init_840 (v := jI 0) rfl ?_
    refine lv_iconst hx hb dX12_init_841 (v := jI 0) rfl ?_
    refine lv_iconst hx hb dX12_init_842 (v := jI 0) rfl ?_
    refine lv_iconst hx hb dX12_init_843 (v := jI 0) rfl ?_
    refine lv_iconst hx hb dX12_init_844 (v := jI 0) rfl ?_
    refine kcZ (n := 8) (c_said (by decide) (by decide) (by decide) (by decide) (by decide) (by decide) (by decide) (by decide) (g_said hN0 (by decide) (by decide) (fun v hv => hv))) gZ_said (by decide +kernel) X hK hw (by decide) (by decide) hc9 hs9 rfl hl.1 (Nat.le_of_ble_eq_true rfl) rfl dX12_init_845 (fun u1 H locs hN1 hw => ?_)
    clear hN0
    refine lv_aload_n hx hb dX12_init_848 rfl (lv_at hl 1 rfl) ?_
    refine lv_bipush hx hb dX12_init_849 (v := jI 116) rfl ?_
    refine lv_iconst hx hb dX12_init_851 (v := jI 0) rfl ?_
    refine lv_iconst hx hb dX12_init_852 (v := jI 0) rfl ?_
    refine lv_iconst hx hb dX12_init_853 (v := jI 0) rfl ?_
    refine lv_iconst hx hb dX12_init_854 (v := jI 0) rfl ?_
    refine lv_iconst hx hb dX12_init_855 (v := jI 0) rfl ?_
    refine lv_iconst hx hb dX12_init_856 (v := jI 0) rfl ?_
    refine lv_iconst hx hb dX12_init_857 (v := jI 0) rfl ?_
    refine kcZ (n := 8) (c_said (by decide) (by decide) (by decide) (by decide) (by decide) (by decide) (by decide) (by decide) (g_said hN1 (by decide) (by decide) (fun v hv => hv))) gZ_said (by decide +kernel) X hK hw (by decide) (by decide) hc9 hs9 rfl hl.1 (Nat.le_of_ble_eq_true rfl) rfl dX12_init_858 (fun u2 H locs hN2 hw => ?_)
    clear hN1
    refine lv_aload_n hx hb dX12_init_861 rfl (lv_at hl 1 rfl) ?_
    refine lv_bipush hx hb dX12_init_862 (v := jI 113) rfl ?_
    refine lv_bipush hx hb dX12_init_864 (v := jI 117) rfl ?_
    refine lv_bipush hx hb dX12_init_866 (v := jI 111) rfl ?_
    refine lv_bipush hx hb dX12_init_868 (v := jI 116) rfl ?_
    refine lv_bipush hx hb dX12_init_870 (v := jI 101) rfl ?_
    refine lv_iconst hx hb dX12_init_872 (v := jI 0) rfl ?_
    refine lv_iconst hx hb dX12_init_873 (v := jI 0) rfl ?_
    refine lv_iconst hx hb dX12_init_874 (v := jI 0) rfl ?_
    refine kcZ (n := 8) (c_said (by decide) (by decide) (by decide) (by decide) (by decide) (by decide) (by decide) (by decide) (g_said hN2 (by decide) (by decide) (fun v hv => hv))) gZ_said (by decide +kernel) X hK hw (by decide) (by decide) hc9 hs9 rfl hl.1 (Nat.le_of_ble_eq_true rfl) rfl dX12_init_875 (fun u3 H locs hN3 hw => ?_)
    clear hN2
    refine lv_aload_n hx hb dX12_init_878 rfl (lv_at hl 1 rfl) ?_
    refine lv_bipush hx hb dX12_init_879 (v := jI 105) rfl ?_
    refine lv_bipush hx hb dX12_init_881 (v := jI 102) rfl ?_
    refine lv_iconst hx hb dX12_init_883 (v := jI 0) rfl ?_
    refine lv_iconst hx hb dX12_init_884 (v := jI 0) rfl ?_
    refine lv_iconst hx hb dX12_init_885 (v := jI 0) rfl ?_
    refine lv_iconst hx hb dX12_init_886 (v := jI 0) rfl ?_
    refine lv_iconst hx hb dX12_init_887 (v := jI 0) rfl ?_
    refine lv_iconst hx hb dX12_init_888 (v := jI 0) rfl ?_
    refine kcZ (n := 8) (c_said (by decide) (by decide) (by decide) (by decide) (by decide) (by decide) (by decide) (by decide) (g_said hN3 (by decide) (by decide) (fun v hv => hv))) gZ_said (by decide +kernel) X hK hw (by decide) (by decide) hc9 hs9 rfl hl.1 (Nat.le_of_ble_eq_true rfl) rfl dX12_init_889 (fun u4 H locs hN4 hw => ?_)
    clear hN3
    refine lv_aload_n hx hb dX12_init_892 rfl (lv_at hl 1 rfl) ?_
    refine lv_bipush hx hb dX12_init_893 (v := jI 101) rfl ?_
    refine lv_bipush hx hb dX12_init_895 (v := jI 113) rfl ?_
    refine lv_bipush hx hb dX12_init_897 (v := jI 117) rfl ?_
    refine lv_bipush hx hb dX12_init_899 (v := jI 97) rfl ?_
    refine lv_bipush hx hb dX12_init_901 (v := jI 108) rfl ?_
    refine lv_iconst hx hb dX12_init_903 (v := jI 0) rfl ?_
    refine lv_iconst hx hb dX12_init_904 (v := jI 0) rfl ?_
    refine lv_iconst hx hb dX12_init_905 (v := jI 0) rfl ?_
    refine kcZ (n := 8) (c_said (by decide) (by decide) (by decide) (by decide) (by decide) (by decide) (by decide) (by decide) (g_said hN4 (by decide) (by decide) (fun v hv => hv))) gZ_said (by decide +kernel) X hK hw (by decide) (by decide) hc9 hs9 rfl hl.1 (Nat.le_of_ble_eq_true rfl) rfl dX12_init_906 (fun u5 H locs hN5 hw => ?_)
    clear hN4
    refine lv_aload_n hx hb dX12_init_909 rfl (lv_at hl 1 rfl) ?_
    refine lv_bipush hx hb dX12_init_910 (v := jI 99) rfl ?_
    refine lv_bipush hx hb dX12_init_912 (v := jI 111) rfl ?_
    refine lv_bipush hx hb dX12_init_914 (v := jI 110) rfl ?_
    refine lv_bipush hx hb dX12_init_916 (v := jI 115) rfl ?_
    refine lv_iconst hx hb dX12_init_918 (v := jI 0) rfl ?_
    refine lv_iconst hx hb dX12_init_919 (v := jI 0) rfl ?_
    refine lv_iconst hx hb dX12_init_920 (v := jI 0) rfl ?_
    refine lv_iconst hx hb dX12_init_921 (v := jI 0) rfl ?_
    refine kcZ (n := 8) (c_said (by decide) (by decide) (by decide) (by decide) (by decide) (by decide) (by decide) (by decide) (g_said hN5 (by decide) (by decide) (fun v hv => hv))) gZ_said (by decide +kernel) X hK hw (by decide) (by decide) hc9 hs9 rfl hl.1 (Nat.le_of_ble_eq_true rfl) rfl dX12_init_922 (fun u6 H locs hN6 hw => ?_)
    clear hN5
    refine lv_aload_n hx hb dX12_init_925 rfl (lv_at hl 1 rfl) ?_
    refine lv_bipush hx hb dX12_init_926 (v := jI 105) rfl ?_
    refine lv_bipush hx hb dX12_init_928 (v := jI 109) rfl ?_
    refine lv_bipush hx hb dX12_init_930 (v := jI 112) rfl ?_
    refine lv_bipush hx hb dX12_init_932 (v := jI 108) rfl ?_
    refine lv_bipush hx hb dX12_init_934 (v := jI 105) rfl ?_
    refine lv_bipush hx hb dX12_init_936 (v := jI 101) rfl ?_
    refine lv_bipush hx hb dX12_init_938 (v := jI 115) rfl ?_
    refine lv_iconst hx hb dX12_init_940 (v := jI 0) rfl ?_
    refine kcZ (n := 8) (c_said (by decide) (by decide) (by decide) (by decide) (by decide) (by decide) (by decide) (by decide) (g_said hN6 (by decide) (by decide) (fun v hv => hv))) gZ_said (by decide +kernel) X hK hw (by decide) (by decide) hc9 hs9 rfl hl.1 (Nat.le_of_ble_eq_true rfl) rfl dX12_init_941 (fun u7 H locs hN7 hw => ?_)
    clear hN6
    refine lv_aload_n hx hb dX12_init_944 rfl (lv_at hl 1 rfl) ?_
    refine lv_bipush hx hb dX12_init_945 (v := jI 43) rfl ?_
    refine lv_iconst hx hb dX12_init_947 (v := jI 0) rfl ?_
    refine lv_iconst hx hb dX12_init_948 (v := jI 0) rfl ?_
    refine lv_iconst hx hb dX12_init_949 (v := jI 0) rfl ?_
    refine lv_iconst hx hb dX12_init_950 (v := jI 0) rfl ?_
    refine lv_iconst hx hb dX12_init_951 (v := jI 0) rfl ?_
    refine lv_iconst hx hb dX12_init_952 (v := jI 0) rfl ?_
    refine lv_iconst hx hb dX12_init_953 (v := jI 0) rfl ?_
    refine kcZ (n := 8) (c_said (by decide) (by decide) (by decide) (by decide) (by decide) (by decide) (by decide) (by decide) (g_said hN7 (by decide) (by decide) (fun v hv => hv))) gZ_said (by decide +kernel) X hK hw (by decide) (by decide) hc9 hs9 rfl hl.1 (Nat.le_of_ble_eq_true rfl) rfl dX12_init_954 (fun u8 H locs hN8 hw => ?_)
    clear hN7
    refine lv_aload_n hx hb dX12_init_957 rfl (lv_at hl 1 rfl) ?_
    refine lv_bipush hx hb dX12_init_958 (v := jI 45) rfl ?_
    refine lv_iconst hx hb dX12_init_960 (v := jI 0) rfl ?_
    refine lv_iconst hx hb dX12_init_961 (v := jI 0) rfl ?_
    refine lv_iconst hx hb dX12_init_962 (v := jI 0) rfl ?_
    refine lv_iconst hx hb dX12_init_963 (v := jI 0) rfl ?_
    refine lv_iconst hx hb dX12_init_964 (v := jI 0) rfl ?_
    refine lv_iconst hx hb dX12_init_965 (v := jI 0) rfl ?_
    refine lv_iconst hx hb dX12_init_966 (v := jI 0) rfl ?_
    refine kcZ (n := 8) (c_said (by decide) (by decide) (by decide) (by decide) (by decide) (by decide) (by decide) (by decide) (g_said hN8 (by decide) (by decide) (fun v hv => hv))) gZ_said (by decide +kernel) X hK hw (by decide) (by decide) hc9 hs9 rfl hl.1 (Nat.le_of_ble_eq_true rfl) rfl dX12_init_967 (fun u9 H locs hN9 hw => ?_)
    clear hN8
    refine lv_aload_n hx hb dX12_init_970 rfl (lv_at hl 1 rfl) ?_
    refine lv_bipush hx hb dX12_init_971 (v := jI 60) rfl ?_
    refine lv_iconst hx hb dX12_init_973 (v := jI 0) rfl ?_
    refine lv_iconst hx hb dX12_init_974 (v := jI 0) rfl ?_
    refine lv_iconst hx hb dX12_init_975 (v := jI 0) rfl ?_
    refine lv_iconst hx hb dX12_init_976 (v := jI 0) rfl ?_
    refine lv_iconst hx hb dX12_init_977 (v := jI 0) rfl ?_
    refine lv_iconst hx hb dX12_init_978 (v := jI 0) rfl ?_
    refine lv_iconst hx hb dX12_init_979 (v := jI 0) rfl ?_
    refine kcZ (n := 8) (c_said (by decide) (by decide) (by decide) (by decide) (by decide) (by decide) (by decide) (by decide) (g_said hN9 (by decide) (by decide) (fun v hv => hv))) gZ_said (by decide +kernel) X hK hw (by decide) (by decide) hc9 hs9 rfl hl.1 (Nat.le_of_ble_eq_true rfl) rfl dX12_init_980 (fun u10 H locs hN10 hw => ?_)
    clear hN9
    refine lv_aload_n hx hb dX12_init_983 rfl (lv_at hl 1 rfl) ?_
    refine lv_bipush hx hb dX12_init_984 (v := jI 99) rfl ?_
    refine lv_bipush hx hb dX12_init_986 (v := jI 111) rfl ?_
    refine lv_bipush hx hb dX12_init_988 (v := jI 110) rfl ?_
    refine lv_bipush hx hb dX12_init_990 (v := jI 115) rfl ?_
    refine lv_bipush hx hb dX12_init_992 (v := jI 112) rfl ?_
    refine lv_iconst hx hb dX12_init_994 (v := jI 0) rfl ?_
    refine lv_iconst hx hb dX12_init_995 (v := jI 0) rfl ?_
    refine lv_iconst hx hb dX12_init_996 (v := jI 0) rfl ?_
    refine kcZ (n := 8) (c_said (by decide) (by decide) (by decide) (by decide) (by decide) (by decide) (by decide) (by decide) (g_said hN10 (by decide) (by decide) (fun v hv => hv))) gZ_said (by decide +kernel) X hK hw (by decide) (by decide) hc9 hs9 rfl hl.1 (Nat.le_of_ble_eq_true rfl) rfl dX12_init_997 (fun u11 H locs hN11 hw => ?_)
    clear hN10
    refine lv_aload_n hx hb dX12_init_1000 rfl (lv_at hl 1 rfl) ?_
    refine lv_bipush hx hb dX12_init_1001 (v := jI 99) rfl ?_
    refine lv_bipush hx hb dX12_init_1003 (v := jI 97) rfl ?_
    refine lv_bipush hx hb dX12_init_1005 (v := jI 114) rfl ?_
    refine lv_iconst hx hb dX12_init_1007 (v := jI 0) rfl ?_
    refine lv_iconst hx hb dX12_init_1008 (v := jI 0) rfl ?_
    refine lv_iconst hx hb dX12_init_1009 (v := jI 0) rfl ?_
    refine lv_iconst hx hb dX12_init_1010 (v := jI 0) rfl ?_
    refine lv_iconst hx hb dX12_init_1011 (v := jI 0) rfl ?_
    refine kcZ (n := 8) (c_said (by decide) (by decide) (by decide) (by decide) (by decide) (by decide) (by decide) (by decide) (g_said hN11 (by decide) (by decide) (fun v hv => hv))) gZ_said (by decide +kernel) X hK hw (by decide) (by decide) hc9 hs9 rfl hl.1 (Nat.le_of_ble_eq_true rfl) rfl dX12_init_1012 (fun u12 H locs hN12 hw => ?_)
    clear hN11
    refine lv_aload_n hx hb dX12_init_1015 rfl (lv_at hl 1 rfl) ?_
    refine lv_bipush hx hb dX12_init_1016 (v := jI 99) rfl ?_
    refine lv_bipush hx hb dX12_init_1018 (v := jI 100) rfl ?_
    refine lv_bipush hx hb dX12_init_1020 (v := jI 114) rfl ?_
    refine lv_iconst hx hb dX12_init_1022 (v := jI 0) rfl ?_
    refine lv_iconst hx hb dX12_init_1023 (v := jI 0) rfl ?_
    refine lv_iconst hx hb dX12_init_1024 (v := jI 0) rfl ?_
    refine lv_iconst hx hb dX12_init_1025 (v := jI 0) rfl ?_
    refine lv_iconst hx hb dX12_init_1026 (v := jI 0) rfl ?_
    refine kcZ (n := 8) (c_said (by decide) (by decide) (by decide) (by decide) (by decide) (by decide) (by decide) (by decide) (g_said hN12 (by decide) (by decide) (fun v hv => hv))) gZ_said (by decide +kernel) X hK hw (by decide) (by decide) hc9 hs9 rfl hl.1 (Nat.le_of_ble_eq_true rfl) rfl dX12_init_1027 (fun u13 H locs hN13 hw => ?_)
    clear hN12
    refine lv_aload_n hx hb dX12_init_1030 rfl (lv_at hl 1 rfl) ?_
    refine lv_bipush hx hb dX12_init_1031 (v := jI 110) rfl ?_
    refine lv_bipush hx hb dX12_init_1033 (v := jI 97) rfl ?_
    refine lv_bipush hx hb dX12_init_1035 (v := jI 116) rfl ?_
    refine lv_bipush hx hb dX12_init_1037 (v := jI 112) rfl ?_
    refine lv_iconst hx hb dX12_init_1039 (v := jI 0) rfl ?_
    refine lv_iconst hx hb dX12_init_1040 (v := jI 0) rfl ?_
    refine lv_iconst hx hb dX12_init_1041 (v := jI 0) rfl ?_
    refine lv_iconst hx hb dX12_init_1042 (v := jI 0) rfl ?_
    refine kcZ (n := 8) (c_said (by decide) (by decide) (by decide) (by decide) (by decide) (by decide) (by decide) (by decide) (g_said hN13 (by decide) (by decide) (fun v hv => hv))) gZ_said (by decide +kernel) X hK hw (by decide) (by decide) hc9 hs9 rfl hl.1 (Nat.le_of_ble_eq_true rfl) rfl dX12_init_1043 (fun u14 H locs hN14 hw => ?_)
    clear hN13
    refine lv_aload_n hx hb dX12_init_1046 rfl (lv_at hl 1 rfl) ?_
    refine lv_bipush hx hb dX12_init_1047 (v := jI 115) rfl ?_
    refine lv_bipush hx hb dX12_init_1049 (v := jI 121) rfl ?_
    refine lv_bipush hx hb dX12_init_1051 (v := jI 109) rfl ?_
    refine lv_bipush hx hb dX12_init_1053 (v := jI 98) rfl ?_
    refine lv_bipush hx hb dX12_init_1055 (v := jI 111) rfl ?_
    refine lv_bipush hx hb dX12_init_1057 (v := jI 108) rfl ?_
    refine lv_bipush hx hb dX12_init_1059 (v := jI 112) rfl ?_
    refine lv_iconst hx hb dX12_init_1061 (v := jI 0) rfl ?_
    refine kcZ (n := 8) (c_said (by decide) (by decide) (by decide) (by decide) (by decide) (by decide) (by decide) (by decide) (g_said hN14 (by decide) (by decide) (fun v hv => hv))) gZ_said (by decide +kernel) X hK hw (by decide) (by decide) hc9 hs9 rfl hl.1 (Nat.le_of_ble_eq_true rfl) rfl dX12_init_1062 (fun u15 H locs hN15 hw => ?_)
    clear hN14
    refine lv_aload_n hx hb dX12_init_1065 rfl (lv_at hl 1 rfl) ?_
    refine lv_bipush hx hb dX12_init_1066 (v := jI 110) rfl ?_
    refine lv_bipush hx hb dX12_init_1068 (v := jI 111) rfl ?_
    refine lv_bipush hx hb dX12_init_1070 (v := jI 116) rfl ?_
    refine lv_iconst hx hb dX12_init_1072 (v := jI 0) rfl ?_
    refine lv_iconst hx hb dX12_init_1073 (v := jI 0) rfl ?_
    refine lv_iconst hx hb dX12_init_1074 (v := jI 0) rfl ?_
    refine lv_iconst hx hb dX12_init_1075 (v := jI 0) rfl ?_
    refine lv_iconst hx hb dX12_init_1076 (v := jI 0) rfl ?_
    refine kcZ (n := 8) (c_said (by decide) (by decide) (by decide) (by decide) (by decide) (by decide) (by decide) (by decide) (g_said hN15 (by decide) (by decide) (fun v hv => hv))) gZ_said (by decide +kernel) X hK hw (by decide) (by decide) hc9 hs9 rfl hl.1 (Nat.le_of_ble_eq_true rfl) rfl dX12_init_1077 (fun u16 H locs hN16 hw => ?_)
    clear hN15
    refine lv_aload_n hx hb dX12_init_1080 rfl (lv_at hl 1 rfl) ?_
    refine lv_bipush hx hb dX12_init_1081 (v := jI 104) rfl ?_
    refine lv_bipush hx hb dX12_init_1083 (v := jI 101) rfl ?_
    refine lv_bipush hx hb dX12_init_1085 (v := jI 105) rfl ?_
    refine lv_bipush hx hb dX12_init_1087 (v := jI 103) rfl ?_
    refine lv_bipush hx hb dX12_init_1089 (v := jI 104) rfl ?_
    refine lv_bipush hx hb dX12_init_1091 (v := jI 116) rfl ?_
    refine lv_iconst hx hb dX12_init_1093 (v := jI 0) rfl ?_
    refine lv_iconst hx hb dX12_init_1094 (v := jI 0) rfl ?_
    refine kcZ (n := 8) (c_said (by decide) (by decide) (by decide) (by decide) (by decide) (by decide) (by decide) (by decide) (g_said hN16 (by decide) (by decide) (fun v hv => hv))) gZ_said (by decide +kernel) X hK hw (by decide) (by decide) hc9 hs9 rfl hl.1 (Nat.le_of_ble_eq_true rfl) rfl dX12_init_1095 (fun u17 H locs hN17 hw => ?_)
    clear hN16
    refine lv_aload_n hx hb dX12_init_1098 rfl (lv_at hl 1 rfl) ?_
    refine lv_bipush hx hb dX12_init_1099 (v := jI 100) rfl ?_
    refine lv_bipush hx hb dX12_init_1101 (v := jI 101) rfl ?_
    refine lv_bipush hx hb dX12_init_1103 (v := jI 102) rfl ?_
    refine lv_bipush hx hb dX12_init_1105 (v := jI 117) rfl ?_
    refine lv_bipush hx hb dX12_init_1107 (v := jI 110) rfl ?_
    refine lv_iconst hx hb dX12_init_1109 (v := jI 0) rfl ?_
    refine lv_iconst hx hb dX12_init_1110 (v := jI 0) rfl ?_
    refine lv_iconst hx hb dX12_init_1111 (v := jI 0) rfl ?_
    refine kcZ (n := 8) (c_said (by decide) (by decide) (by decide) (by decide) (by decide) (by decide) (by decide) (by decide) (g_said hN17 (by decide) (by decide) (fun v hv => hv))) gZ_said (by decide +kernel) X hK hw (by decide) (by decide) hc9 hs9 rfl hl.1 (Nat.le_of_ble_eq_true rfl) rfl dX12_init_1112 (fun u18 H locs hN18 hw => ?_)
    clear hN17
    refine lv_aload_n hx hb dX12_init_1115 rfl (lv_at hl 1 rfl) ?_
    refine lv_bipush hx hb dX12_init_1116 (v := jI 116) rfl ?_
    refine lv_bipush hx hb dX12_init_1118 (v := jI 104) rfl ?_
    refine lv_bipush hx hb dX12_init_1120 (v := jI 101) rfl ?_
    refine lv_bipush hx hb dX12_init_1122 (v := jI 111) rfl ?_
    refine lv_bipush hx hb dX12_init_1124 (v := jI 114) rfl ?_
    refine lv_bipush hx hb dX12_init_1126 (v := jI 101) rfl ?_
    refine lv_bipush hx hb dX12_init_1128 (v := jI 109) rfl ?_
    refine lv_iconst hx hb dX12_init_1130 (v := jI 0) rfl ?_
    refine kcZ (n := 8) (c_said (by decide) (by decide) (by decide) (by decide) (by decide) (by decide) (by decide) (by decide) (g_said hN18 (by decide) (by decide) (fun v hv => hv))) gZ_said (by decide +kernel) X hK hw (by decide) (by decide) hc9 hs9 rfl hl.1 (Nat.le_of_ble_eq_true rfl) rfl dX12_init_1131 (fun u19 H locs hN19 hw => ?_)
    clear hN18
    refine lv_aload_n hx hb dX12_init_1134 rfl (lv_at hl 1 rfl) ?_
    refine lv_bipush hx hb dX12_init_1135 (v := jI 101) rfl ?_
    refine lv_bipush hx hb dX12_init_1137 (v := jI 118) rfl ?_
    refine lv_bipush hx hb dX12_init_1139 (v := jI 97) rfl ?_
    refine lv_bipush hx hb dX12_init_1141 (v := jI 108) rfl ?_
    refine lv_iconst hx hb dX12_init_1143 (v := jI 0) rfl ?_
    refine lv_iconst hx hb dX12_init_1144 (v := jI 0) rfl ?_
    refine lv_iconst hx hb dX12_init_1145 (v := jI 0) rfl ?_
    refine lv_iconst hx hb dX12_init_1146 (v := jI 0) rfl ?_
    refine kcZ (n := 8) (c_said (by decide) (by decide) (by decide) (by decide) (by decide) (by decide) (by decide) (by decide) (g_said hN19 (by decide) (by decide) (fun v hv => hv))) gZ_said (by decide +kernel) X hK hw (by decide) (by decide) hc9 hs9 rfl hl.1 (Nat.le_of_ble_eq_true rfl) rfl dX12_init_1147 (fun u20 H locs hN20 hw => ?_)
    clear hN19
    refine lv_aload_n hx hb dX12_init_1150 rfl (lv_at hl 1 rfl) ?_
    refine lv_bipush hx hb dX12_init_1151 (v := jI 115) rfl ?_
    refine lv_bipush hx hb dX12_init_1153 (v := jI 105) rfl ?_
    refine lv_bipush hx hb dX12_init_1155 (v := jI 109) rfl ?_
    refine lv_bipush hx hb dX12_init_1157 (v := jI 112) rfl ?_
    refine lv_bipush hx hb dX12_init_1159 (v := jI 108) rfl ?_
    refine lv_bipush hx hb dX12_init_1161 (v := jI 105) rfl ?_
    refine lv_bipush hx hb dX12_init_1163 (v := jI 102) rfl ?_
    refine lv_bipush hx hb dX12_init_1165 (v := jI 121) rfl ?_
    refine kcZ (n := 8) (c_said (by decide) (by decide) (by decide) (by decide) (by decide) (by decide) (by decide) (by decide) (g_said hN20 (by decide) (by decide) (fun v hv => hv))) gZ_said (by decide +kernel) X hK hw (by decide) (by decide) hc9 hs9 rfl hl.1 (Nat.le_of_ble_eq_true rfl) rfl dX12_init_1167 (fun u21 H locs hN21 hw => ?_)
    clear hN20
    refine lv_aload_n hx hb dX12_init_1170 rfl (lv_at hl 1 rfl) ?_
    refine lv_bipush hx hb dX12_init_1171 (v := jI 112) rfl ?_
    refine lv_bipush hx hb dX12_init_1173 (v := jI 114) rfl ?_
    refine lv_bipush hx hb dX12_init_1175 (v := jI 111) rfl ?_
    refine lv_bipush hx hb dX12_init_1177 (v := jI 118) rfl ?_
    refine lv_bipush hx hb dX12_init_1179 (v := jI 101) rfl ?_
    refine lv_iconst hx hb dX12_init_1181 (v := jI 0) rfl ?_
    refine lv_iconst hx hb dX12_init_1182 (v := jI 0) rfl ?_
    refine lv_iconst hx hb dX12_init_1183 (v := jI 0) rfl ?_
    refine kcZ (n := 8) (c_said (by decide) (by decide) (by decide) (by decide) (by decide) (by decide) (by decide) (by decide) (g_said hN21 (by decide) (by decide) (fun v hv => hv))) gZ_said (by decide +kernel) X hK hw (by decide) (by decide) hc9 hs9 rfl hl.1 (Nat.le_of_ble_eq_true rfl) rfl dX12_init_1184 (fun u22 H locs hN22 hw => ?_)
    clear hN21
    refine lv_aload_n hx hb dX12_init_1187 rfl (lv_at hl 1 rfl) ?_
    refine lv_bipush hx hb dX12_init_1188 (v := jI 100) rfl ?_
    refine lv_bipush hx hb dX12_init_1190 (v := jI 101) rfl ?_
    refine lv_bipush hx hb dX12_init_1192 (v := jI 102) rfl ?_
    refine lv_bipush hx hb dX12_init_1194 (v := jI 116) rfl ?_
    refine lv_bipush hx hb dX12_init_1196 (v := jI 104) rfl ?_
    refine lv_bipush hx hb dX12_init_1198 (v := jI 109) rfl ?_
    refine lv_iconst hx hb dX12_init_1200 (v := jI 0) rfl ?_
    refine lv_iconst hx hb dX12_init_1201 (v := jI 0) rfl ?_
    refine kcZ (n := 8) (c_said (by decide) (by decide) (by decide) (by decide) (by decide) (by decide) (by decide) (by decide) (g_said hN22 (by decide) (by decide) (fun v hv => hv))) gZ_said (by decide +kernel) X hK hw (by decide) (by decide) hc9 hs9 rfl hl.1 (Nat.le_of_ble_eq_true rfl) rfl dX12_init_1202 (fun u23 H locs hN23 hw => ?_)
    clear hN22
    refine lv_aload_n hx hb dX12_init_1205 rfl (lv_at hl 1 rfl) ?_
    refine lv_bipush hx hb dX12_init_1206 (v := jI 111) rfl ?_
    refine lv_bipush hx hb dX12_init_1208 (v := jI 110) rfl ?_
    refine lv_iconst hx hb dX12_init_1210 (v := jI 0) rfl ?_
    refine lv_iconst hx hb dX12_init_1211 (v := jI 0) rfl ?_
    refine lv_iconst hx hb dX12_init_1212 (v := jI 0) rfl ?_
    refine lv_iconst hx hb dX12_init_1213 (v := jI 0) rfl ?_
    refine lv_iconst hx hb dX12_init_1214 (v := jI 0) rfl ?_
    refine lv_iconst hx hb dX12_init_1215 (v := jI 0) rfl ?_
    refine kcZ (n := 8) (c_said (by decide) (by decide) (by decide) (by decide) (by decide) (by decide) (by decide) (by decide) (g_said hN23 (by decide) (by decide) (fun v hv => hv))) gZ_said (by decide +kernel) X hK hw (by decide) (by decide) hc9 hs9 rfl hl.1 (Nat.le_of_ble_eq_true rfl) rfl dX12_init_1216 (fun u24 H locs hN24 hw => ?_)
    clear hN23
    refine lv_aload_n hx hb dX12_init_1219 rfl (lv_at hl 1 rfl) ?_
    refine lv_bipush hx hb dX12_init_1220 (v := jI 111) rfl ?_
    refine lv_bipush hx hb dX12_init_1222 (v := jI 102) rfl ?_
    refine lv_bipush hx hb dX12_init_1224 (v := jI 102) rfl ?_
    refine lv_iconst hx hb dX12_init_1226 (v := jI 0) rfl ?_
    refine lv_iconst hx hb dX12_init_1227 (v := jI 0) rfl ?_
    refine lv_iconst hx hb dX12_init_1228 (v := jI 0) rfl ?_
    refine lv_iconst hx hb dX12_init_1229 (v := jI 0) rfl ?_
    refine lv_iconst hx hb dX12_init_1230 (v := jI 0) rfl ?_
    refine kcZ (n := 8) (c_said (by decide) (by decide) (by decide) (by decide) (by decide) (by decide) (by decide) (by decide) (g_said hN24 (by decide) (by decide) (fun v hv => hv))) gZ_said (by decide +kernel) X hK hw (by decide) (by decide) hc9 hs9 rfl hl.1 (Nat.le_of_ble_eq_true rfl) rfl dX12_init_1231 (fun u25 H locs hN25 hw => ?_)
    clear hN24
    refine lv_aload_n hx hb dX12_init_1234 rfl (lv_at hl 1 rfl) ?_
    refine lv_bipush hx hb dX12_init_1235 (v := jI 117) rfl ?_
    refine lv_bipush hx hb dX12_init_1237 (v := jI 110) rfl ?_
    refine lv_bipush hx hb dX12_init_1239 (v := jI 100) rfl ?_
    refine lv_bipush hx hb dX12_init_1241 (v := jI 111) rfl ?_
    refine lv_iconst hx hb dX12_init_1243 (v := jI 0) rfl ?_
    refine lv_iconst hx hb dX12_init_1244 (v := jI 0) rfl ?_
    refine lv_iconst hx hb dX12_init_1245 (v := jI 0) rfl ?_
    refine lv_iconst hx hb dX12_init_1246 (v := jI 0) rfl ?_
    refine kcZ (n := 8) (c_said (by decide) (by decide) (by decide) (by decide) (by decide) (by decide) (by decide) (by decide) (g_said hN25 (by decide) (by decide) (fun v hv => hv))) gZ_said (by decide +kernel) X hK hw (by decide) (by decide) hc9 hs9 rfl hl.1 (Nat.le_of_ble_eq_true rfl) rfl dX12_init_1247 (fun u26 H locs hN26 hw => ?_)
    clear hN25
    refine lv_aload_n hx hb dX12_init_1250 rfl (lv_at hl 1 rfl) ?_
    refine lv_bipush hx hb dX12_init_1251 (v := jI 99) rfl ?_
    refine lv_bipush hx hb dX12_init_1253 (v := jI 104) rfl ?_
    refine lv_bipush hx hb dX12_init_1255 (v := jI 101) rfl ?_
    refine lv_bipush hx hb dX12_init_1257 (v := jI 99) rfl ?_
    refine lv_bipush hx hb dX12_init_1259 (v := jI 107) rfl ?_
    refine lv_iconst hx hb dX12_init_1261 (v := jI 0) rfl ?_
    refine lv_iconst hx hb dX12_init_1262 (v := jI 0) rfl ?_
    refine lv_iconst hx hb dX12_init_1263 (v := jI 0) rfl ?_
    refine kcZ (n := 8) (c_said (by decide) (by decide) (by decide) (by decide) (by decide) (by decide) (by decide) (by decide) (g_said hN26 (by decide) (by decide) (fun v hv => hv))) gZ_said (by decide +kernel) X hK hw (by decide) (by decide) hc9 hs9 rfl hl.1 (Nat.le_of_ble_eq_true rfl) rfl dX12_init_1264 (fun u27 H locs hN27 hw => ?_)
    clear hN26
    refine lv_aload_n hx hb dX12_init_1267 rfl (lv_at hl 1 rfl) ?_
    refine lv_bipush hx hb dX12_init_1268 (v := jI 105) rfl ?_
    refine lv_bipush hx hb dX12_init_1270 (v := jI 110) rfl ?_
    refine lv_bipush hx hb dX12_init_1272 (v := jI 100) rfl ?_
    refine lv_bipush hx hb dX12_init_1274 (v := jI 117) rfl ?_
    refine lv_bipush hx hb dX12_init_1276 (v := jI 99) rfl ?_
    refine lv_bipush hx hb dX12_init_1278 (v := jI 116) rfl ?_
    refine lv_iconst hx hb dX12_init_1280 (v := jI 0) rfl ?_
    refine lv_iconst hx hb dX12_init_1281 (v := jI 0) rfl ?_
    refine kcZ (n := 8) (c_said (by decide) (by decide) (by decide) (by decide) (by decide) (by decide) (by decide) (by decide) (g_said hN27 (by decide) (by decide) (fun v hv => hv))) gZ_said (by decide +kernel) X hK hw (by decide) (by decide) hc9 hs9 rfl hl.1 (Nat.le_of_ble_eq_true rfl) rfl dX12_init_1282 (fun u28 H locs hN28 hw => ?_)
    clear hN27
    refine lv_aload_n hx hb dX12_init_1285 rfl (lv_at hl 1 rfl) ?_
    refine lv_bipush hx hb dX12_init_1286 (v := jI 117) rfl ?_
    refine lv_bipush hx hb dX12_init_1288 (v := jI 115) rfl ?_
    refine lv_bipush hx hb dX12_init_1290 (v := jI 101) rfl ?_
    refine lv_iconst hx hb dX12_init_1292 (v := jI 0) rfl ?_
    refine lv_iconst hx hb dX12_init_1293 (v := jI 0) rfl ?_
    refine lv_iconst hx hb dX12_init_1294 (v := jI 0) rfl ?_
    refine lv_iconst hx hb dX12_init_1295 (v := jI 0) rfl ?_
    refine lv_iconst hx hb dX12_init_1296 (v := jI 0) rfl ?_
    refine kcZ (n := 8) (c_said (by decide) (by decide) (by decide) (by decide) (by decide) (by decide) (by decide) (by decide) (g_said hN28 (by decide) (by decide) (fun v hv => hv))) gZ_said (by decide +kernel) X hK hw (by decide) (by decide) hc9 hs9 rfl hl.1 (Nat.le_of_ble_eq_true rfl) rfl dX12_init_1297 (fun u29 H locs hN29 hw => ?_)
    clear hN28
    refine lv_aload_n hx hb dX12_init_1300 rfl (lv_at hl 1 rfl) ?_
    refine lv_bipush hx hb dX12_init_1301 (v := jI 116) rfl ?_
    refine lv_bipush hx hb dX12_init_1303 (v := jI 97) rfl ?_
    refine lv_bipush hx hb dX12_init_1305 (v := jI 117) rfl ?_
    refine lv_bipush hx hb dX12_init_1307 (v := jI 116) rfl ?_
    refine lv_iconst hx hb dX12_init_1309 (v := jI 0) rfl ?_
    refine lv_iconst hx hb dX12_init_1310 (v := jI 0) rfl ?_
    refine lv_iconst hx hb dX12_init_1311 (v := jI 0) rfl ?_
    refine lv_iconst hx hb dX12_init_1312 (v := jI 0) rfl ?_
    refine kcZ (n := 8) (c_said (by decide) (by decide) (by decide) (by decide) (by decide) (by decide) (by decide) (by decide) (g_said hN29 (by decide) (by decide) (fun v hv => hv))) gZ_said (by decide +kernel) X hK hw (by decide) (by decide) hc9 hs9 rfl hl.1 (Nat.le_of_ble_eq_true rfl) rfl dX12_init_1313 (fun u30 H locs hN30 hw => ?_)
    clear hN29
    refine lv_aload_n hx hb dX12_init_1316 rfl (lv_at hl 1 rfl) ?_
    refine lv_bipush hx hb dX12_init_1317 (v := jI 115) rfl ?_
    refine lv_bipush hx hb dX12_init_1319 (v := jI 97) rfl ?_
    refine lv_bipush hx hb dX12_init_1321 (v := jI 109) rfl ?_
    refine lv_bipush hx hb dX12_init_1323 (v := jI 101) rfl ?_
    refine lv_iconst hx hb dX12_init_1325 (v := jI 0) rfl ?_
    refine lv_iconst hx hb dX12_init_1326 (v := jI 0) rfl ?_
    refine lv_iconst hx hb dX12_init_1327 (v := jI 0) rfl ?_
    refine lv_iconst hx hb dX12_init_1328 (v := jI 0) rfl ?_
    refine kcZ (n := 8) (c_said (by decide) (by decide) (by decide) (by decide) (by decide) (by decide) (by decide) (by decide) (g_said hN30 (by decide) (by decide) (fun v hv => hv))) gZ_said (by decide +kernel) X hK hw (by decide) (by decide) hc9 hs9 rfl hl.1 (Nat.le_of_ble_eq_true rfl) rfl dX12_init_1329 (fun u31 H locs hN31 hw => ?_)
    clear hN30
    refine lv_aload_n hx hb dX12_init_1332 rfl (lv_at hl 1 rfl) ?_
    refine lv_bipush hx hb dX12_init_1333 (v := jI 118) rfl ?_
    refine lv_bipush hx hb dX12_init_1335 (v := jI 97) rfl ?_
    refine lv_bipush hx hb dX12_init_1337 (v := jI 108) rfl ?_
    refine lv_bipush hx hb dX12_init_1339 (v := jI 117) rfl ?_
    refine lv_bipush hx hb dX12_init_1341 (v := jI 101) rfl ?_
    refine lv_iconst hx hb dX12_init_1343 (v := jI 0) rfl ?_
    refine lv_iconst hx hb dX12_init_1344 (v := jI 0) rfl ?_
    refine lv_iconst hx hb dX12_init_1345 (v := jI 0) rfl ?_
    refine kcZ (n := 8) (c_said (by decide) (by decide) (by decide) (by decide) (by decide) (by decide) (by decide) (by decide) (g_said hN31 (by decide) (by decide) (fun v hv => hv))) gZ_said (by decide +kernel) X hK hw (by decide) (by decide) hc9 hs9 rfl hl.1 (Nat.le_of_ble_eq_true rfl) rfl dX12_init_1346 (fun u32 H locs hN32 hw => ?_)
    clear hN31
    refine lv_aload_n hx hb dX12_init_1349 rfl (lv_at hl 1 rfl) ?_
    refine lv_bipush hx hb dX12_init_1350 (v := jI 102) rfl ?_
    refine lv_bipush hx hb dX12_init_1352 (v := jI 105) rfl ?_
    refine lv_bipush hx hb dX12_init_1354 (v := jI 114) rfl ?_
    refine lv_bipush hx hb dX12_init_1356 (v := jI 115) rfl ?_
    refine lv_bipush hx hb dX12_init_1358 (v := jI 116) rfl ?_
    refine lv_iconst hx hb dX12_init_1360 (v := jI 0) rfl ?_
    refine lv_iconst hx hb dX12_init_1361 (v := jI 0) rfl ?_
    refine lv_iconst hx hb dX12_init_1362 (v := jI 0) rfl ?_
    refine kcZ (n := 8) (c_said (by decide) (by decide) (by decide) (by decide) (by decide) (by decide) (by decide) (by decide) (g_said hN32 (by decide) (by decide) (fun v hv => hv))) gZ_said (by decide +kernel) X hK hw (by decide) (by decide) hc9 hs9 rfl hl.1 (Nat.le_of_ble_eq_true rfl) rfl dX12_init_1363 (fun u33 H locs hN33 hw => ?_)
    clear hN32
    refine lv_aload_n hx hb dX12_init_1366 rfl (lv_at hl 1 rfl) ?_
    refine lv_bipush hx hb dX12_init_1367 (v := jI 115) rfl ?_
    refine lv_bipush hx hb dX12_init_1369 (v := jI 101) rfl ?_
    refine lv_bipush hx hb dX12_init_1371 (v := jI 99) rfl ?_
    refine lv_bipush hx hb dX12_init_1373 (v := jI 111) rfl ?_
    refine lv_bipush hx hb dX12_init_1375 (v := jI 110) rfl ?_
    refine lv_bipush hx hb dX12_init_1377 (v := jI 100) rfl ?_
    refine lv_iconst hx hb dX12_init_1379 (v := jI 0) rfl ?_
    refine lv_iconst hx hb dX12_init_1380 (v := jI 0) rfl ?_
    refine kcZ (n := 8) (c_said (by decide) (by decide) (by decide) (by decide) (by decide) (by decide) (by decide) (by decide) (g_said hN33 (by decide) (by decide) (fun v hv => hv))) gZ_said (by decide +kernel) X hK hw (by decide) (by decide) hc9 hs9 rfl hl.1 (Nat.le_of_ble_eq_true rfl) rfl dX12_init_1381 (fun u34 H locs hN34 hw => ?_)
    clear hN33
    refine lv_aload_n hx hb dX12_init_1384 rfl (lv_at hl 1 rfl) ?_
    refine lv_bipush hx hb dX12_init_1385 (v := jI 112) rfl ?_
    refine lv_bipush hx hb dX12_init_1387 (v := jI 97) rfl ?_
    refine lv_bipush hx hb dX12_init_1389 (v := jI 105) rfl ?_
    refine lv_bipush hx hb dX12_init_1391 (v := jI 114) rfl ?_
    refine lv_iconst hx hb dX12_init_1393 (v := jI 0) rfl ?_
    refine lv_iconst hx hb dX12_init_1394 (v := jI 0) rfl ?_
    refine lv_iconst hx hb dX12_init_1395 (v := jI 0) rfl ?_
    refine lv_iconst hx hb dX12_init_1396 (v := jI 0) rfl ?_
    refine kcZ (n := 8) (c_said (by decide) (by decide) (by decide) (by decide) (by decide) (by decide) (by decide) (by decide) (g_said hN34 (by decide) (by decide) (fun v hv => hv))) gZ_said (by decide +kernel) X hK hw (by decide) (by decide) hc9 hs9 rfl hl.1 (Nat.le_of_ble_eq_true rfl) rfl dX12_init_1397 (fun u35 H locs hN35 hw => ?_)
    clear hN34
    refine lv_aload_n hx hb dX12_init_1400 rfl (lv_at hl 1 rfl) ?_
    refine lv_bipush hx hb dX12_init_1401 (v := jI 121) rfl ?_
    refine lv_bipush hx hb dX12_init_1403 (v := jI 101) rfl ?_
    refine lv_bipush hx hb dX12_init_1405 (v := jI 115) rfl ?_
    refine lv_iconst hx hb dX12_init_1407 (v := jI 0) rfl ?_
    refine lv_iconst hx hb dX12_init_1408 (v := jI 0) rfl ?_
    refine lv_iconst hx hb dX12_init_1409 (v := jI 0) rfl ?_
    refine lv_iconst hx hb dX12_init_1410 (v := jI 0) rfl ?_
    refine lv_iconst hx hb dX12_init_1411 (v := jI 0) rfl ?_
    refine kcZ (n := 8) (c_said (by decide) (by decide) (by decide) (by decide) (by decide) (by decide) (by decide) (by decide) (g_said hN35 (by decide) (by decide) (fun v hv => hv))) gZ_said (by decide +kernel) X hK hw (by decide) (by decide) hc9 hs9 rfl hl.1 (Nat.le_of_ble_eq_true rfl) rfl dX12_init_1412 (fun u36 H locs hN36 hw => ?_)
    clear hN35
    refine lv_aload_n hx hb dX12_init_1415 rfl (lv_at hl 1 rfl) ?_
    refine lv_bipush hx hb dX12_init_1416 (v := jI 110) rfl ?_
    refine lv_bipush hx hb dX12_init_1418 (v := jI 111) rfl ?_
    refine lv_iconst hx hb dX12_init_1420 (v := jI 0) rfl ?_
    refine lv_iconst hx hb dX12_init_1421 (v := jI 0) rfl ?_
    refine lv_iconst hx hb dX12_init_1422 (v := jI 0) rfl ?_
    refine lv_iconst hx hb dX12_init_1423 (v := jI 0) rfl ?_
    refine lv_iconst hx hb dX12_init_1424 (v := jI 0) rfl ?_
    refine lv_iconst hx hb dX12_init_1425 (v := jI 0) rfl ?_
    refine kcZ (n := 8) (c_said (by decide) (by decide) (by decide) (by decide) (by decide) (by decide) (by decide) (by decide) (g_said hN36 (by decide) (by decide) (fun v hv => hv))) gZ_said (by decide +kernel) X hK hw (by decide) (by decide) hc9 hs9 rfl hl.1 (Nat.le_of_ble_eq_true rfl) rfl dX12_init_1426 (fun u37 H locs hN37 hw => ?_)
    clear hN36
    refine lv_aload_n hx hb dX12_init_1429 rfl (lv_at hl 1 rfl) ?_
    refine lv_bipush hx hb dX12_init_1430 (v := jI 100) rfl ?_
    refine lv_bipush hx hb dX12_init_1432 (v := jI 101) rfl ?_
    refine lv_bipush hx hb dX12_init_1434 (v := jI 102) rfl ?_
    refine lv_iconst hx hb dX12_init_1436 (v := jI 0) rfl ?_
    refine lv_iconst hx hb dX12_init_1437 (v := jI 0) rfl ?_
    refine lv_iconst hx hb dX12_init_1438 (v := jI 0) rfl ?_
    refine lv_iconst hx hb dX12_init_1439 (v := jI 0) rfl ?_
    refine lv_iconst hx hb dX12_init_1440 (v := jI 0) rfl ?_
    refine kcZ (n := 8) (c_said (by decide) (by decide) (by decide) (by decide) (by decide) (by decide) (by decide) (by decide) (g_said hN37 (by decide) (by decide) (fun v hv => hv))) gZ_said (by decide +kernel) X hK hw (by decide) (by decide) hc9 hs9 rfl hl.1 (Nat.le_of_ble_eq_true rfl) rfl dX12_init_1441 (fun u38 H locs hN38 hw => ?_)
    clear hN37
    refine lv_aload_n hx hb dX12_init_1444 rfl (lv_at hl 1 rfl) ?_
    refine lv_bipush hx hb dX12_init_1445 (v := jI 116) rfl ?_
    refine lv_bipush hx hb dX12_init_1447 (v := jI 104) rfl ?_
    refine lv_bipush hx hb dX12_init_1449 (v := jI 109) rfl ?_
    refine lv_iconst hx hb dX12_init_1451 (v := jI 0) rfl ?_
    refine lv_iconst hx hb dX12_init_1452 (v := jI 0) rfl ?_
    refine lv_iconst hx hb dX12_init_1453 (v := jI 0) rfl ?_
    refine lv_iconst hx hb dX12_init_1454 (v := jI 0) rfl ?_
    refine lv_iconst hx hb dX12_init_1455 (v := jI 0) rfl ?_
    refine kcZ (n := 8) (c_said (by decide) (by decide) (by decide) (by decide) (by decide) (by decide) (by decide) (by decide) (g_said hN38 (by decide) (by decide) (fun v hv => hv))) gZ_said (by decide +kernel) X hK hw (by decide) (by decide) hc9 hs9 rfl hl.1 (Nat.le_of_ble_eq_true rfl) rfl dX12_init_1456 (fun u39 H locs hN39 hw => ?_)
    clear hN38
    refine lv_aload_n hx hb dX12_init_1459 rfl (lv_at hl 1 rfl) ?_
    refine lv_bipush hx hb dX12_init_1460 (v := jI 119) rfl ?_
    refine lv_bipush hx hb dX12_init_1462 (v := jI 101) rfl ?_
    refine lv_bipush hx hb dX12_init_1464 (v := jI 97) rfl ?_
    refine lv_bipush hx hb dX12_init_1466 (v := jI 107) rfl ?_
    refine lv_iconst hx hb dX12_init_1468 (v := jI 0) rfl ?_
    refine lv_iconst hx hb dX12_init_1469 (v := jI 0) rfl ?_
    refine lv_iconst hx hb dX12_init_1470 (v := jI 0) rfl ?_
    refine lv_iconst hx hb dX12_init_1471 (v := jI 0) rfl ?_
    refine kcZ (n := 8) (c_said (by decide) (by decide) (by decide) (by decide) (by decide) (by decide) (by decide) (by decide) (g_said hN39 (by decide) (by decide) (fun v hv => hv))) gZ_said (by decide +kernel) X hK hw (by decide) (by decide) hc9 hs9 rfl hl.1 (Nat.le_of_ble_eq_true rfl) rfl dX12_init_1472 (fun u40 H locs hN40 hw => ?_)
    clear hN39
    refine lv_aload_n hx hb dX12_init_1475 rfl (lv_at hl 1 rfl) ?_
    refine lv_bipush hx hb dX12_init_1476 (v := jI 99) rfl ?_
    refine lv_bipush hx hb dX12_init_1478 (v := jI 117) rfl ?_
    refine lv_bipush hx hb dX12_init_1480 (v := jI 116) rfl ?_
    refine lv_iconst hx hb dX12_init_1482 (v := jI 0) rfl ?_
    refine lv_iconst hx hb dX12_init_1483 (v := jI 0) rfl ?_
    refine lv_iconst hx hb dX12_init_1484 (v := jI 0) rfl ?_
    refine lv_iconst hx hb dX12_init_1485 (v := jI 0) rfl ?_
    refine lv_iconst hx hb dX12_init_1486 (v := jI 0) rfl ?_
    refine kcZ (n := 8) (c_said (by decide) (by decide) (by decide) (by decide) (by decide) (by decide) (by decide) (by decide) (g_said hN40 (by decide) (by decide) (fun v hv => hv))) gZ_said (by decide +kernel) X hK hw (by decide) (by decide) hc9 hs9 rfl hl.1 (Nat.le_of_ble_eq_true rfl) rfl dX12_init_1487 (fun u41 H locs hN41 hw => ?_)
    clear hN40
    refine lv_aload_n hx hb dX12_init_1490 rfl (lv_at hl 1 rfl) ?_
    refine lv_bipush hx hb dX12_init_1491 (v := jI 105) rfl ?_
    refine lv_bipush hx hb dX12_init_1493 (v := jI 110) rfl ?_
    refine lv_bipush hx hb dX12_init_1495 (v := jI 115) rfl ?_
    refine lv_bipush hx hb dX12_init_1497 (v := jI 116) rfl ?_
    refine lv_iconst hx hb dX12_init_1499 (v := jI 0) rfl ?_
    refine lv_iconst hx hb dX12_init_1500 (v := jI 0) rfl ?_
    refine lv_iconst hx hb dX12_init_1501 (v := jI 0) rfl ?_
    refine lv_iconst hx hb dX12_init_1502 (v := jI 0) rfl ?_
    refine kcZ (n := 8) (c_said (by decide) (by decide) (by decide) (by decide) (by decide) (by decide) (by decide) (by decide) (g_said hN41 (by decide) (by decide) (fun v hv => hv))) gZ_said (by decide +kernel) X hK hw (by decide) (by decide) hc9 hs9 rfl hl.1 (Nat.le_of_ble_eq_true rfl) rfl dX12_init_1503 (fun u42 H locs hN42 hw => ?_)
    clear hN41
    refine lv_aload_n hx hb dX12_init_1506 rfl (lv_at hl 1 rfl) ?_
    refine lv_bipush hx hb dX12_init_1507 (v := jI 115) rfl ?_
    refine lv_bipush hx hb dX12_init_1509 (v := jI 119) rfl ?_
    refine lv_bipush hx hb dX12_init_1511 (v := jI 97) rfl ?_
    refine lv_bipush hx hb dX12_init_1513 (v := jI 112) rfl ?_
    refine lv_iconst hx hb dX12_init_1515 (v := jI 0) rfl ?_
    refine lv_iconst hx hb dX12_init_1516 (v := jI 0) rfl ?_
    refine lv_iconst hx hb dX12_init_1517 (v := jI 0) rfl ?_
    refine lv_iconst hx hb dX12_init_1518 (v := jI 0) rfl ?_
    refine kcZ (n := 8) (c_said (by decide) (by decide) (by decide) (by decide) (by decide) (by decide) (by decide) (by decide) (g_said hN42 (by decide) (by decide) (fun v hv => hv))) gZ_said (by decide +kernel) X hK hw (by decide) (by decide) hc9 hs9 rfl hl.1 (Nat.le_of_ble_eq_true rfl) rfl dX12_init_1519 (fun u43 H locs hN43 hw => ?_)
    clear hN42
    refine lv_aload_n hx hb dX12_init_1522 rfl (lv_at hl 1 rfl) ?_
    refine lv_bipush hx hb dX12_init_1523 (v := jI 112) rfl ?_
    refine lv_bipush hx hb dX12_init_1525 (v := jI 117) rfl ?_
    refine lv_bipush hx hb dX12_init_1527 (v := jI 116) rfl ?_
    refine lv_iconst hx hb dX12_init_1529 (v := jI 0) rfl ?_
    refine lv_iconst hx hb dX12_init_1530 (v := jI 0) rfl ?_
    refine lv_iconst hx hb dX12_init_1531 (v := jI 0) rfl ?_
    refine lv_iconst hx hb dX12_init_1532 (v := jI 0) rfl ?_
    refine lv_iconst hx hb dX12_init_1533 (v := jI 0) rfl ?_
    refine kcZ (n := 8) (c_said (by decide) (by decide) (by decide) (by decide) (by decide) (by decide) (by decide) (by decide) (g_said hN43 (by decide) (by decide) (fun v hv => hv))) gZ_said (by decide +kernel) X hK hw (by decide) (by decide) hc9 hs9 rfl hl.1 (Nat.le_of_ble_eq_true rfl) rfl dX12_init_1534 (fun u44 H locs hN44 hw => ?_)
    clear hN43
    exact kk u44 H locs ls ⟨hN44, hw.2.2.2.1⟩ hw.1 hw.2.1 hw.2.2.1 (lv_sub hl [1] rfl)
  · have hj : j < 8192 := by
      rcases Nat.lt_or_ge j 8192 with h | h
      · exact h
      · exact absurd (nI_le h (by omega)) h1
    refine lv_aload_n hx hb dX12_init_820 rfl (lv_at hl 1 rfl) ?_
    refine va_get (D := D) (ci := 12) (v := .ref (ad 7)) (C := RX12) (T := TX12) (N := 149) hx hb hts hin hown hK hP 0 mH_0 rfl 7 (by decide) L_heads (fun _ h9 => h9) mF_7 dX12_init_821 ?_
    refine lv_iload_n hx hb dX12_init_824 rfl (lv_at hl 0 rfl) ?_
    refine lv_iconst hx hb dX12_init_825 (v := (-1)) rfl ?_
    refine va_iast hx hb hK hP hD hS 7 6 mG_7 rfl (vp_in_nI hj (by decide)) dX12_init_826 (fun H locs hP hD hS => ?_)
    rw [mSA_7] at hP hD
    refine lv_iinc (v := nI j + 1) hx hb dX12_init_827 hl (k := 0) rfl rfl (by decide) rfl (fun ls hl => ?_)
    have hl : lv_has ls 2 [(1, .int (nI j + 1)), (0, .ref (h0))] := hl
    refine lv_goto hx hb dX12_init_830 (tgt := 813) rfl ?_
    refine ih (mA w 7 (nI j).toNatClampNeg ((-1)), j + 1) H locs ls ⟨by show j + 1 ≤ 8192; omega, hI2, ?_, fun g h1 => (mA_n w _ _ h1).trans (hI4 g h1), hI5⟩ (by show 8192 - (j + 1) < 8192 - j; omega) hP hD hS (by rw [nI_1] at hl; exact hl)
    intro h hh
    show (mA w 7 (nI j).toNatClampNeg (-1)).2.1 7 h = -1
    rw [mA_s, nI_clamp (by omega)]
    by_cases e : h = j
    · rw [e, pk_us]
    · rw [pk_un e]; exact hI3 h (by have : h < j + 1 := hh; omega)
