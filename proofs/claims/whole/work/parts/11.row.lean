def fJ6_numberOfTrailingZeros_0f7a4 (p0 : Int32) : Option (Int32) := (onm ((p0 ^^^ (-1 : Int32)) &&& (p0 - (1 : Int32))) (fun x0_1 => (if (0 : Int32) < x0_1 then (ob2 (if x0_1 ≤ (65536 : Int32) then (some ((1 : Int32), x0_1)) else (onm (((Int32.toUInt32 x0_1) >>> ((Int32.toUInt32 (16 : Int32)) &&& Int32.toUInt32 31)).toInt32) (fun x0_11 => (some (((1 : Int32) + (16 : Int32)), x0_11))))) (fun x1_1 x0_3 => (ob2 (if x0_3 ≤ (256 : Int32) then (some (x1_1, x0_3)) else (onm (((Int32.toUInt32 x0_3) >>> ((Int32.toUInt32 (8 : Int32)) &&& Int32.toUInt32 31)).toInt32) (fun x0_10 => (some ((x1_1 + (8 : Int32)), x0_10))))) (fun x1_2 x0_5 => (ob2 (if x0_5 ≤ (16 : Int32) then (some (x1_2, x0_5)) else (onm (((Int32.toUInt32 x0_5) >>> ((Int32.toUInt32 (4 : Int32)) &&& Int32.toUInt32 31)).toInt32) (fun x0_9 => (some ((x1_2 + (4 : Int32)), x0_9))))) (fun x1_3 x0_7 => (if x0_7 ≤ (4 : Int32) then (some (x1_3 + (((Int32.toUInt32 x0_7) >>> ((Int32.toUInt32 (1 : Int32)) &&& Int32.toUInt32 31)).toInt32))) else (onm (((Int32.toUInt32 x0_7) >>> ((Int32.toUInt32 (2 : Int32)) &&& Int32.toUInt32 31)).toInt32) (fun x0_8 => (some ((x1_3 + (2 : Int32)) + (((Int32.toUInt32 x0_8) >>> ((Int32.toUInt32 (1 : Int32)) &&& Int32.toUInt32 31)).toInt32)))))))))))) else (some (x0_1 &&& (32 : Int32))))))
abbrev wJ6_numberOfTrailingZeros_0f7a4 (cI cZ cM cS : ClassId) : va_W := []
set_option maxHeartbeats 4000000 in
set_option maxRecDepth 100000 in
theorem tJ6_numberOfTrailingZeros_0f7a4 (l : Launch) (D : va_G) (cI cZ cM cS : ClassId) (p0 : Int32) {r : Int32} (hF : fJ6_numberOfTrailingZeros_0f7a4 p0 = some r) : zCR l yJ6_numberOfTrailingZeros_0f7a4 wsJ6_numberOfTrailingZeros_0f7a4 (zRm 0 0) D (zTy cI cZ cM cS) [.int p0] (wJ6_numberOfTrailingZeros_0f7a4 cI cZ cM cS ) r := by
  unfold fJ6_numberOfTrailingZeros_0f7a4 at hF
  refine zCR_of (cc := cJ6_numberOfTrailingZeros_0f7a4) (maxL := 2) (own := RJ6) (by decide +kernel) rfl rfl (Nat.le_of_ble_eq_true rfl) (fun p e s m args below meth c Q ls E hK hP hRet hl => ?_)
  have hl : lv_has ls 2 [(0, .int p0)] := hl
  obtain ⟨hx, hb, hml, hown, hts⟩ := id E
  have cn264 := hts (.constant RJ6 264 (65536)) (by decide +kernel)
  refine lv_iload_n (pc := 0) hx hb dJ6_numberOfTrailingZeros_0f7a4_0 rfl (lv_at hl 0 rfl) ?_
  refine lv_iconst (v := (-1 : Int32)) (pc := 1) hx hb dJ6_numberOfTrailingZeros_0f7a4_1 (by decide) ?_
  refine lv_ixor (pc := 2) hx hb dJ6_numberOfTrailingZeros_0f7a4_2 ?_
  refine lv_iload_n (pc := 3) hx hb dJ6_numberOfTrailingZeros_0f7a4_3 rfl (lv_at hl 0 rfl) ?_
  refine lv_iconst (v := (1 : Int32)) (pc := 4) hx hb dJ6_numberOfTrailingZeros_0f7a4_4 (by decide) ?_
  refine lv_isub (pc := 5) hx hb dJ6_numberOfTrailingZeros_0f7a4_5 ?_
  refine lv_iand (pc := 6) hx hb dJ6_numberOfTrailingZeros_0f7a4_6 ?_
  refine lv_topi (fun x0_1 ex0_1 => ?_)
  have hF := onm_e hF x0_1 ex0_1
  refine lv_istore_n (lv' := [(0, .int x0_1)]) (pc := 7) hx hb dJ6_numberOfTrailingZeros_0f7a4_7 rfl hl (by decide) rfl (fun ls hl => ?_)
  refine lv_iload_n (pc := 8) hx hb dJ6_numberOfTrailingZeros_0f7a4_8 rfl (lv_at hl 0 rfl) ?_
  refine lv_if_gt (pc := 9) (tgt := 17) hx hb dJ6_numberOfTrailingZeros_0f7a4_9 (by decide) (fun hc => ?_) (fun hc => ?_)
  · have hF := oif_t hF hc
    refine lv_iconst (v := (1 : Int32)) (pc := 17) hx hb dJ6_numberOfTrailingZeros_0f7a4_17 (by decide) ?_
    refine lv_istore_n (lv' := [(1, .int (1 : Int32)), (0, .int x0_1)]) (pc := 18) hx hb dJ6_numberOfTrailingZeros_0f7a4_18 rfl hl (by decide) rfl (fun ls hl => ?_)
    refine lv_iload_n (pc := 19) hx hb dJ6_numberOfTrailingZeros_0f7a4_19 rfl (lv_at hl 1 rfl) ?_
    refine lv_ldcw (v := (65536 : Int32)) (pc := 20) hx hb hown cn264 dJ6_numberOfTrailingZeros_0f7a4_20 ?_
    obtain ⟨x1_1, x0_3, hM1, hF⟩ := ob2_e hF
    have jn1 : ∀ (ls : Array Slot), lv_has ls 2 [(1, .int x1_1), (0, .int x0_3)] → W p l e (zRm 0 0) s m args below meth c s.heap [] 0 0 Q (F0 m 34 ls []) := by
      intro ls hl
      refine lv_iload_n (pc := 34) hx hb dJ6_numberOfTrailingZeros_0f7a4_34 rfl (lv_at hl 1 rfl) ?_
      refine lv_sipush (v := (256 : Int32)) (pc := 35) hx hb dJ6_numberOfTrailingZeros_0f7a4_35 (by decide) ?_
      obtain ⟨x1_2, x0_5, hM2, hF⟩ := ob2_e hF
      have jn2 : ∀ (ls : Array Slot), lv_has ls 2 [(1, .int x1_2), (0, .int x0_5)] → W p l e (zRm 0 0) s m args below meth c s.heap [] 0 0 Q (F0 m 49 ls []) := by
        intro ls hl
        refine lv_iload_n (pc := 49) hx hb dJ6_numberOfTrailingZeros_0f7a4_49 rfl (lv_at hl 1 rfl) ?_
        refine lv_bipush (v := (16 : Int32)) (pc := 50) hx hb dJ6_numberOfTrailingZeros_0f7a4_50 (by decide) ?_
        obtain ⟨x1_3, x0_7, hM3, hF⟩ := ob2_e hF
        have jn3 : ∀ (ls : Array Slot), lv_has ls 2 [(1, .int x1_3), (0, .int x0_7)] → W p l e (zRm 0 0) s m args below meth c s.heap [] 0 0 Q (F0 m 62 ls []) := by
          intro ls hl
          refine lv_iload_n (pc := 62) hx hb dJ6_numberOfTrailingZeros_0f7a4_62 rfl (lv_at hl 1 rfl) ?_
          refine lv_iconst (v := (4 : Int32)) (pc := 63) hx hb dJ6_numberOfTrailingZeros_0f7a4_63 (by decide) ?_
          refine lv_icmp_le (pc := 64) (tgt := 74) hx hb dJ6_numberOfTrailingZeros_0f7a4_64 (by decide) (fun hc => ?_) (fun hc => ?_)
          · have hF := oif_t hF hc
            refine lv_iload_n (pc := 74) hx hb dJ6_numberOfTrailingZeros_0f7a4_74 rfl (lv_at hl 0 rfl) ?_
            refine lv_iload_n (pc := 75) hx hb dJ6_numberOfTrailingZeros_0f7a4_75 rfl (lv_at hl 1 rfl) ?_
            refine lv_iconst (v := (1 : Int32)) (pc := 76) hx hb dJ6_numberOfTrailingZeros_0f7a4_76 (by decide) ?_
            refine lv_iushr (v := ((Int32.toUInt32 x0_7) >>> ((Int32.toUInt32 (1 : Int32)) &&& Int32.toUInt32 31)).toInt32) (pc := 77) hx hb dJ6_numberOfTrailingZeros_0f7a4_77 rfl ?_
            refine lv_iadd (pc := 78) hx hb dJ6_numberOfTrailingZeros_0f7a4_78 ?_
            cases hF
            exact hRet _ _ rfl dJ6_numberOfTrailingZeros_0f7a4_79
          · have hF := oif_f hF hc
            refine lv_iinc (v := (x1_3 + (2 : Int32))) (lv' := [(1, .int (x1_3 + (2 : Int32))), (0, .int x0_7)]) (pc := 67) hx hb dJ6_numberOfTrailingZeros_0f7a4_67 hl (k := 0) rfl rfl (by decide) rfl (fun ls hl => ?_)
            refine lv_iload_n (pc := 70) hx hb dJ6_numberOfTrailingZeros_0f7a4_70 rfl (lv_at hl 1 rfl) ?_
            refine lv_iconst (v := (2 : Int32)) (pc := 71) hx hb dJ6_numberOfTrailingZeros_0f7a4_71 (by decide) ?_
            refine lv_iushr (v := ((Int32.toUInt32 x0_7) >>> ((Int32.toUInt32 (2 : Int32)) &&& Int32.toUInt32 31)).toInt32) (pc := 72) hx hb dJ6_numberOfTrailingZeros_0f7a4_72 rfl ?_
            refine lv_topi (fun x0_8 ex0_8 => ?_)
            have hF := onm_e hF x0_8 ex0_8
            refine lv_istore_n (lv' := [(0, .int x0_8), (1, .int (x1_3 + (2 : Int32)))]) (pc := 73) hx hb dJ6_numberOfTrailingZeros_0f7a4_73 rfl hl (by decide) rfl (fun ls hl => ?_)
            refine lv_iload_n (pc := 74) hx hb dJ6_numberOfTrailingZeros_0f7a4_74 rfl (lv_at hl 1 rfl) ?_
            refine lv_iload_n (pc := 75) hx hb dJ6_numberOfTrailingZeros_0f7a4_75 rfl (lv_at hl 0 rfl) ?_
            refine lv_iconst (v := (1 : Int32)) (pc := 76) hx hb dJ6_numberOfTrailingZeros_0f7a4_76 (by decide) ?_
            refine lv_iushr (v := ((Int32.toUInt32 x0_8) >>> ((Int32.toUInt32 (1 : Int32)) &&& Int32.toUInt32 31)).toInt32) (pc := 77) hx hb dJ6_numberOfTrailingZeros_0f7a4_77 rfl ?_
            refine lv_iadd (pc := 78) hx hb dJ6_numberOfTrailingZeros_0f7a4_78 ?_
            cases hF
            exact hRet _ _ rfl dJ6_numberOfTrailingZeros_0f7a4_79
        refine lv_icmp_le (pc := 52) (tgt := 62) hx hb dJ6_numberOfTrailingZeros_0f7a4_52 (by decide) (fun hc => ?_) (fun hc => ?_)
        · have hM3 := oif_t hM3 hc
          cases hM3
          exact jn3 _ (lv_sub hl [0, 1] rfl)
        · have hM3 := oif_f hM3 hc
          refine lv_iinc (v := (x1_2 + (4 : Int32))) (lv' := [(1, .int (x1_2 + (4 : Int32))), (0, .int x0_5)]) (pc := 55) hx hb dJ6_numberOfTrailingZeros_0f7a4_55 hl (k := 0) rfl rfl (by decide) rfl (fun ls hl => ?_)
          refine lv_iload_n (pc := 58) hx hb dJ6_numberOfTrailingZeros_0f7a4_58 rfl (lv_at hl 1 rfl) ?_
          refine lv_iconst (v := (4 : Int32)) (pc := 59) hx hb dJ6_numberOfTrailingZeros_0f7a4_59 (by decide) ?_
          refine lv_iushr (v := ((Int32.toUInt32 x0_5) >>> ((Int32.toUInt32 (4 : Int32)) &&& Int32.toUInt32 31)).toInt32) (pc := 60) hx hb dJ6_numberOfTrailingZeros_0f7a4_60 rfl ?_
          refine lv_topi (fun x0_9 ex0_9 => ?_)
          have hM3 := onm_e hM3 x0_9 ex0_9
          refine lv_istore_n (lv' := [(0, .int x0_9), (1, .int (x1_2 + (4 : Int32)))]) (pc := 61) hx hb dJ6_numberOfTrailingZeros_0f7a4_61 rfl hl (by decide) rfl (fun ls hl => ?_)
          cases hM3
          exact jn3 _ (lv_sub hl [1, 0] rfl)
      refine lv_icmp_le (pc := 38) (tgt := 49) hx hb dJ6_numberOfTrailingZeros_0f7a4_38 (by decide) (fun hc => ?_) (fun hc => ?_)
      · have hM2 := oif_t hM2 hc
        cases hM2
        exact jn2 _ (lv_sub hl [0, 1] rfl)
      · have hM2 := oif_f hM2 hc
        refine lv_iinc (v := (x1_1 + (8 : Int32))) (lv' := [(1, .int (x1_1 + (8 : Int32))), (0, .int x0_3)]) (pc := 41) hx hb dJ6_numberOfTrailingZeros_0f7a4_41 hl (k := 0) rfl rfl (by decide) rfl (fun ls hl => ?_)
        refine lv_iload_n (pc := 44) hx hb dJ6_numberOfTrailingZeros_0f7a4_44 rfl (lv_at hl 1 rfl) ?_
        refine lv_bipush (v := (8 : Int32)) (pc := 45) hx hb dJ6_numberOfTrailingZeros_0f7a4_45 (by decide) ?_
        refine lv_iushr (v := ((Int32.toUInt32 x0_3) >>> ((Int32.toUInt32 (8 : Int32)) &&& Int32.toUInt32 31)).toInt32) (pc := 47) hx hb dJ6_numberOfTrailingZeros_0f7a4_47 rfl ?_
        refine lv_topi (fun x0_10 ex0_10 => ?_)
        have hM2 := onm_e hM2 x0_10 ex0_10
        refine lv_istore_n (lv' := [(0, .int x0_10), (1, .int (x1_1 + (8 : Int32)))]) (pc := 48) hx hb dJ6_numberOfTrailingZeros_0f7a4_48 rfl hl (by decide) rfl (fun ls hl => ?_)
        cases hM2
        exact jn2 _ (lv_sub hl [1, 0] rfl)
    refine lv_icmp_le (pc := 23) (tgt := 34) hx hb dJ6_numberOfTrailingZeros_0f7a4_23 (by decide) (fun hc => ?_) (fun hc => ?_)
    · have hM1 := oif_t hM1 hc
      cases hM1
      exact jn1 _ (lv_sub hl [0, 1] rfl)
    · have hM1 := oif_f hM1 hc
      refine lv_iinc (v := ((1 : Int32) + (16 : Int32))) (lv' := [(1, .int ((1 : Int32) + (16 : Int32))), (0, .int x0_1)]) (pc := 26) hx hb dJ6_numberOfTrailingZeros_0f7a4_26 hl (k := 0) rfl rfl (by decide) rfl (fun ls hl => ?_)
      refine lv_iload_n (pc := 29) hx hb dJ6_numberOfTrailingZeros_0f7a4_29 rfl (lv_at hl 1 rfl) ?_
      refine lv_bipush (v := (16 : Int32)) (pc := 30) hx hb dJ6_numberOfTrailingZeros_0f7a4_30 (by decide) ?_
      refine lv_iushr (v := ((Int32.toUInt32 x0_1) >>> ((Int32.toUInt32 (16 : Int32)) &&& Int32.toUInt32 31)).toInt32) (pc := 32) hx hb dJ6_numberOfTrailingZeros_0f7a4_32 rfl ?_
      refine lv_topi (fun x0_11 ex0_11 => ?_)
      have hM1 := onm_e hM1 x0_11 ex0_11
      refine lv_istore_n (lv' := [(0, .int x0_11), (1, .int ((1 : Int32) + (16 : Int32)))]) (pc := 33) hx hb dJ6_numberOfTrailingZeros_0f7a4_33 rfl hl (by decide) rfl (fun ls hl => ?_)
      cases hM1
      exact jn1 _ (lv_sub hl [1, 0] rfl)
  · have hF := oif_f hF hc
    refine lv_iload_n (pc := 12) hx hb dJ6_numberOfTrailingZeros_0f7a4_12 rfl (lv_at hl 0 rfl) ?_
    refine lv_bipush (v := (32 : Int32)) (pc := 13) hx hb dJ6_numberOfTrailingZeros_0f7a4_13 (by decide) ?_
    refine lv_iand (pc := 15) hx hb dJ6_numberOfTrailingZeros_0f7a4_15 ?_
    cases hF
    exact hRet _ _ rfl dJ6_numberOfTrailingZeros_0f7a4_16
def fJ6_bitCount_0f7a4 (p0 : Int32) : Option (Int32) := (onm (p0 - ((((Int32.toUInt32 p0) >>> ((Int32.toUInt32 (1 : Int32)) &&& Int32.toUInt32 31)).toInt32) &&& (1431655765 : Int32))) (fun x0_1 => (onm ((x0_1 &&& (858993459 : Int32)) + ((((Int32.toUInt32 x0_1) >>> ((Int32.toUInt32 (2 : Int32)) &&& Int32.toUInt32 31)).toInt32) &&& (858993459 : Int32))) (fun x0_2 => (onm ((x0_2 + (((Int32.toUInt32 x0_2) >>> ((Int32.toUInt32 (4 : Int32)) &&& Int32.toUInt32 31)).toInt32)) &&& (252645135 : Int32)) (fun x0_3 => (onm (x0_3 + (((Int32.toUInt32 x0_3) >>> ((Int32.toUInt32 (8 : Int32)) &&& Int32.toUInt32 31)).toInt32)) (fun x0_4 => (onm (x0_4 + (((Int32.toUInt32 x0_4) >>> ((Int32.toUInt32 (16 : Int32)) &&& Int32.toUInt32 31)).toInt32)) (fun x0_5 => (some (x0_5 &&& (63 : Int32)))))))))))))
abbrev wJ6_bitCount_0f7a4 (cI cZ cM cS : ClassId) : va_W := []
set_option maxHeartbeats 4000000 in
set_option maxRecDepth 100000 in
theorem tJ6_bitCount_0f7a4 (l : Launch) (D : va_G) (cI cZ cM cS : ClassId) (p0 : Int32) {r : Int32} (hF : fJ6_bitCount_0f7a4 p0 = some r) : zCR l yJ6_bitCount_0f7a4 wsJ6_bitCount_0f7a4 (zRm 0 0) D (zTy cI cZ cM cS) [.int p0] (wJ6_bitCount_0f7a4 cI cZ cM cS ) r := by
  unfold fJ6_bitCount_0f7a4 at hF
  refine zCR_of (cc := cJ6_bitCount_0f7a4) (maxL := 1) (own := RJ6) (by decide +kernel) rfl rfl (Nat.le_of_ble_eq_true rfl) (fun p e s m args below meth c Q ls E hK hP hRet hl => ?_)
  have hl : lv_has ls 1 [(0, .int p0)] := hl
  obtain ⟨hx, hb, hml, hown, hts⟩ := id E
  have cn265 := hts (.constant RJ6 265 (1431655765)) (by decide +kernel)
  have cn266 := hts (.constant RJ6 266 (858993459)) (by decide +kernel)
  have cn267 := hts (.constant RJ6 267 (252645135)) (by decide +kernel)
  refine lv_iload_n (pc := 0) hx hb dJ6_bitCount_0f7a4_0 rfl (lv_at hl 0 rfl) ?_
  refine lv_iload_n (pc := 1) hx hb dJ6_bitCount_0f7a4_1 rfl (lv_at hl 0 rfl) ?_
  refine lv_iconst (v := (1 : Int32)) (pc := 2) hx hb dJ6_bitCount_0f7a4_2 (by decide) ?_
  refine lv_iushr (v := ((Int32.toUInt32 p0) >>> ((Int32.toUInt32 (1 : Int32)) &&& Int32.toUInt32 31)).toInt32) (pc := 3) hx hb dJ6_bitCount_0f7a4_3 rfl ?_
  refine lv_ldcw (v := (1431655765 : Int32)) (pc := 4) hx hb hown cn265 dJ6_bitCount_0f7a4_4 ?_
  refine lv_iand (pc := 7) hx hb dJ6_bitCount_0f7a4_7 ?_
  refine lv_isub (pc := 8) hx hb dJ6_bitCount_0f7a4_8 ?_
  refine lv_topi (fun x0_1 ex0_1 => ?_)
  have hF := onm_e hF x0_1 ex0_1
  refine lv_istore_n (lv' := [(0, .int x0_1)]) (pc := 9) hx hb dJ6_bitCount_0f7a4_9 rfl hl (by decide) rfl (fun ls hl => ?_)
  refine lv_iload_n (pc := 10) hx hb dJ6_bitCount_0f7a4_10 rfl (lv_at hl 0 rfl) ?_
  refine lv_ldcw (v := (858993459 : Int32)) (pc := 11) hx hb hown cn266 dJ6_bitCount_0f7a4_11 ?_
  refine lv_iand (pc := 14) hx hb dJ6_bitCount_0f7a4_14 ?_
  refine lv_iload_n (pc := 15) hx hb dJ6_bitCount_0f7a4_15 rfl (lv_at hl 0 rfl) ?_
  refine lv_iconst (v := (2 : Int32)) (pc := 16) hx hb dJ6_bitCount_0f7a4_16 (by decide) ?_
  refine lv_iushr (v := ((Int32.toUInt32 x0_1) >>> ((Int32.toUInt32 (2 : Int32)) &&& Int32.toUInt32 31)).toInt32) (pc := 17) hx hb dJ6_bitCount_0f7a4_17 rfl ?_
  refine lv_ldcw (v := (858993459 : Int32)) (pc := 18) hx hb hown cn266 dJ6_bitCount_0f7a4_18 ?_
  refine lv_iand (pc := 21) hx hb dJ6_bitCount_0f7a4_21 ?_
  refine lv_iadd (pc := 22) hx hb dJ6_bitCount_0f7a4_22 ?_
  refine lv_topi (fun x0_2 ex0_2 => ?_)
  have hF := onm_e hF x0_2 ex0_2
  refine lv_istore_n (lv' := [(0, .int x0_2)]) (pc := 23) hx hb dJ6_bitCount_0f7a4_23 rfl hl (by decide) rfl (fun ls hl => ?_)
  refine lv_iload_n (pc := 24) hx hb dJ6_bitCount_0f7a4_24 rfl (lv_at hl 0 rfl) ?_
  refine lv_iload_n (pc := 25) hx hb dJ6_bitCount_0f7a4_25 rfl (lv_at hl 0 rfl) ?_
  refine lv_iconst (v := (4 : Int32)) (pc := 26) hx hb dJ6_bitCount_0f7a4_26 (by decide) ?_
  refine lv_iushr (v := ((Int32.toUInt32 x0_2) >>> ((Int32.toUInt32 (4 : Int32)) &&& Int32.toUInt32 31)).toInt32) (pc := 27) hx hb dJ6_bitCount_0f7a4_27 rfl ?_
  refine lv_iadd (pc := 28) hx hb dJ6_bitCount_0f7a4_28 ?_
  refine lv_ldcw (v := (252645135 : Int32)) (pc := 29) hx hb hown cn267 dJ6_bitCount_0f7a4_29 ?_
  refine lv_iand (pc := 32) hx hb dJ6_bitCount_0f7a4_32 ?_
  refine lv_topi (fun x0_3 ex0_3 => ?_)
  have hF := onm_e hF x0_3 ex0_3
  refine lv_istore_n (lv' := [(0, .int x0_3)]) (pc := 33) hx hb dJ6_bitCount_0f7a4_33 rfl hl (by decide) rfl (fun ls hl => ?_)
  refine lv_iload_n (pc := 34) hx hb dJ6_bitCount_0f7a4_34 rfl (lv_at hl 0 rfl) ?_
  refine lv_iload_n (pc := 35) hx hb dJ6_bitCount_0f7a4_35 rfl (lv_at hl 0 rfl) ?_
  refine lv_bipush (v := (8 : Int32)) (pc := 36) hx hb dJ6_bitCount_0f7a4_36 (by decide) ?_
  refine lv_iushr (v := ((Int32.toUInt32 x0_3) >>> ((Int32.toUInt32 (8 : Int32)) &&& Int32.toUInt32 31)).toInt32) (pc := 38) hx hb dJ6_bitCount_0f7a4_38 rfl ?_
  refine lv_iadd (pc := 39) hx hb dJ6_bitCount_0f7a4_39 ?_
  refine lv_topi (fun x0_4 ex0_4 => ?_)
  have hF := onm_e hF x0_4 ex0_4
  refine lv_istore_n (lv' := [(0, .int x0_4)]) (pc := 40) hx hb dJ6_bitCount_0f7a4_40 rfl hl (by decide) rfl (fun ls hl => ?_)
  refine lv_iload_n (pc := 41) hx hb dJ6_bitCount_0f7a4_41 rfl (lv_at hl 0 rfl) ?_
  refine lv_iload_n (pc := 42) hx hb dJ6_bitCount_0f7a4_42 rfl (lv_at hl 0 rfl) ?_
  refine lv_bipush (v := (16 : Int32)) (pc := 43) hx hb dJ6_bitCount_0f7a4_43 (by decide) ?_
  refine lv_iushr (v := ((Int32.toUInt32 x0_4) >>> ((Int32.toUInt32 (16 : Int32)) &&& Int32.toUInt32 31)).toInt32) (pc := 45) hx hb dJ6_bitCount_0f7a4_45 rfl ?_
  refine lv_iadd (pc := 46) hx hb dJ6_bitCount_0f7a4_46 ?_
  refine lv_topi (fun x0_5 ex0_5 => ?_)
  have hF := onm_e hF x0_5 ex0_5
  refine lv_istore_n (lv' := [(0, .int x0_5)]) (pc := 47) hx hb dJ6_bitCount_0f7a4_47 rfl hl (by decide) rfl (fun ls hl => ?_)
  refine lv_iload_n (pc := 48) hx hb dJ6_bitCount_0f7a4_48 rfl (lv_at hl 0 rfl) ?_
  refine lv_bipush (v := (63 : Int32)) (pc := 49) hx hb dJ6_bitCount_0f7a4_49 (by decide) ?_
  refine lv_iand (pc := 51) hx hb dJ6_bitCount_0f7a4_51 ?_
  cases hF
  exact hRet _ _ rfl dJ6_bitCount_0f7a4_52
def fJ9_floorMod_7cf53 (p0 : Int32) (p1 : Int32) : Option (Int32) := (onz p1 (if (0 : Int32) ≤ (p0 ^^^ p1) then (some (p0 - p0 / p1 * p1)) else (if (p0 - p0 / p1 * p1) = (0 : Int32) then (some (p0 - p0 / p1 * p1)) else (some ((p0 - p0 / p1 * p1) + p1)))))
abbrev wJ9_floorMod_7cf53 (cI cZ cM cS : ClassId) : va_W := []
set_option maxHeartbeats 4000000 in
set_option maxRecDepth 100000 in
theorem tJ9_floorMod_7cf53 (l : Launch) (D : va_G) (cI cZ cM cS : ClassId) (p0 : Int32) (p1 : Int32) {r : Int32} (hF : fJ9_floorMod_7cf53 p0 p1 = some r) : zCR l yJ9_floorMod_7cf53 wsJ9_floorMod_7cf53 (zRm 0 0) D (zTy cI cZ cM cS) [.int p0, .int p1] (wJ9_floorMod_7cf53 cI cZ cM cS ) r := by
  unfold fJ9_floorMod_7cf53 at hF
  refine zCR_ofF (cc := cJ9_floorMod_7cf53) (maxL := 3) (own := RJ9) (by decide +kernel) rfl rfl (Nat.le_of_ble_eq_true rfl) (fun p e s m args below meth c Q ls E hK hP hRet hl => ?_)
  have hl : lv_has ls 3 [(0, .int p0), (1, .int p1)] := hl
  obtain ⟨hx, hb, hml, hown, hts⟩ := id E
  refine lv_iload_n (pc := 0) hx hb dJ9_floorMod_7cf53_0 rfl (lv_at hl 0 rfl) ?_
  refine lv_iload_n (pc := 1) hx hb dJ9_floorMod_7cf53_1 rfl (lv_at hl 1 rfl) ?_
  obtain ⟨hn1, hF⟩ := onz_e hF
  refine lv_irem (pc := 2) hx hb dJ9_floorMod_7cf53_2 hn1 ?_
  refine lv_istore_n (lv' := [(2, .int (p0 - p0 / p1 * p1)), (0, .int p0), (1, .int p1)]) (pc := 3) hx hb dJ9_floorMod_7cf53_3 rfl hl (by decide) rfl (fun ls hl => ?_)
  refine lv_iload_n (pc := 4) hx hb dJ9_floorMod_7cf53_4 rfl (lv_at hl 1 rfl) ?_
  refine lv_iload_n (pc := 5) hx hb dJ9_floorMod_7cf53_5 rfl (lv_at hl 2 rfl) ?_
  refine lv_ixor (pc := 6) hx hb dJ9_floorMod_7cf53_6 ?_
  refine lv_if_ge (pc := 7) (tgt := 18) hx hb dJ9_floorMod_7cf53_7 (by decide) (fun hc => ?_) (fun hc => ?_)
  · have hF := oif_t hF hc
    refine lv_iload_n (pc := 18) hx hb dJ9_floorMod_7cf53_18 rfl (lv_at hl 0 rfl) ?_
    cases hF
    exact hRet _ _ rfl dJ9_floorMod_7cf53_19
  · have hF := oif_f hF hc
    refine lv_iload_n (pc := 10) hx hb dJ9_floorMod_7cf53_10 rfl (lv_at hl 0 rfl) ?_
    refine lv_if_eq (pc := 11) (tgt := 18) hx hb dJ9_floorMod_7cf53_11 (by decide) (fun hc => ?_) (fun hc => ?_)
    · have hF := oif_t hF hc
      refine lv_iload_n (pc := 18) hx hb dJ9_floorMod_7cf53_18 rfl (lv_at hl 0 rfl) ?_
      cases hF
      exact hRet _ _ rfl dJ9_floorMod_7cf53_19
    · have hF := oif_f hF hc
      refine lv_iload_n (pc := 14) hx hb dJ9_floorMod_7cf53_14 rfl (lv_at hl 0 rfl) ?_
      refine lv_iload_n (pc := 15) hx hb dJ9_floorMod_7cf53_15 rfl (lv_at hl 2 rfl) ?_
      refine lv_iadd (pc := 16) hx hb dJ9_floorMod_7cf53_16 ?_
      cases hF
      exact hRet _ _ rfl dJ9_floorMod_7cf53_17
def fJ7_fill_53178_b5 (p1 : Int32) (x2_2 : Int32) (ff_2 : (Nat → Int32)) : Option ((Int32 × (Nat → Int32)) ⊕ ((Nat → Int32))) := (if (12 : Int32) ≤ x2_2 then (some (.inr ff_2)) else (ogd x2_2 12 (some (.inl ((x2_2 + (1 : Int32)), (upd ff_2 (Int32.toNatClampNeg x2_2) p1))))))
def fJ7_fill_53178_s5 (p1 : Int32) (sg_ : Int32 × (Nat → Int32)) : Option ((Int32 × (Nat → Int32)) ⊕ ((Nat → Int32))) := fJ7_fill_53178_b5 p1 sg_.1 sg_.2
def fJ7_fill_53178 (p1 : Int32) (ff : (Nat → Int32)) : Option ((Nat → Int32)) := (ob1 (olp (fJ7_fill_53178_s5 p1) oFu ((0 : Int32), ff)) (fun ff_3 => (some ff_3)))
abbrev wJ7_fill_53178 (cI cZ cM cS : ClassId) (fa : Nat) (ff : (Nat → Int32)) : va_W := [(fa, .inl (cI, 12, .inl ff))]
set_option maxHeartbeats 4000000 in
set_option maxRecDepth 100000 in
theorem tJ7_fill_53178 (l : Launch) (D : va_G) (cI cZ cM cS : ClassId) (fa : Nat) (ff : (Nat → Int32)) (p1 : Int32) {ff' : (Nat → Int32)} (hF : fJ7_fill_53178 p1 ff = some ff') : zCW l yJ7_fill_53178 wsJ7_fill_53178 (zRm 0 0) D (zTy cI cZ cM cS) [.ref fa, .int p1] (wJ7_fill_53178 cI cZ cM cS fa ff) (wJ7_fill_53178 cI cZ cM cS fa ff') none := by
  unfold fJ7_fill_53178 at hF
  refine zCW_ofv (cc := cJ7_fill_53178) (maxL := 4) (own := RJ7) (by decide) rfl rfl (Nat.le_of_ble_eq_true rfl) (fun p e s m args below meth c Q ls A E hA hK hP hD hRet hS hl => ?_)
  refine zgen (fun H locs hP hS => ?_) hP hS
  have hl : lv_has ls 4 [(0, .ref fa), (1, .int p1)] := hl
  obtain ⟨hx, hb, hml, hown, hts⟩ := id E
  refine lv_iconst (v := (0 : Int32)) (pc := 0) hx hb dJ7_fill_53178_0 (by decide) ?_
  refine lv_istore_n (lv' := [(2, .int (0 : Int32)), (0, .ref fa), (1, .int p1)]) (pc := 1) hx hb dJ7_fill_53178_1 rfl hl (by decide) rfl (fun ls hl => ?_)
  refine lv_aload_n (pc := 2) hx hb dJ7_fill_53178_2 rfl (lv_at hl 1 rfl) ?_
  refine va_alen (pc := 3) (v := (12 : Int32)) hx hb hK hP 0 0 rfl rfl rfl dJ7_fill_53178_3 ?_
  refine lv_istore_n (lv' := [(3, .int (12 : Int32)), (2, .int (0 : Int32)), (0, .ref fa), (1, .int p1)]) (pc := 4) hx hb dJ7_fill_53178_4 rfl hl (by decide) rfl (fun ls hl => ?_)
  obtain ⟨ff_3, hL2, hF⟩ := ob1_e hF
  have ex2 : ∀ (H : Heap) (locs : List Loc) (ls : Array Slot), va_P D vwCl (wJ7_fill_53178 cI cZ cM cS fa ff_3) H → va_D A (wJ7_fill_53178 cI cZ cM cS fa ff_3) → va_S A s.heap H locs → lv_has ls 4 [] → W p l e (zRm 0 0) s m args below meth c H locs 0 0 Q (F0 m 20 ls []) := by
    intro H locs ls hP hD hS hl
    cases hF
    exact hRet _ _ _ _ dJ7_fill_53178_20 hP hD hS
  have lp2 : ∀ (n : Nat) (x2_2 : Int32) (ff_2 : (Nat → Int32)) (H : Heap) (locs : List Loc) (ls : Array Slot), olp (fJ7_fill_53178_s5 p1) n (x2_2, ff_2) = some ff_3 → va_P D vwCl (wJ7_fill_53178 cI cZ cM cS fa ff_2) H → va_D A (wJ7_fill_53178 cI cZ cM cS fa ff_2) → va_S A s.heap H locs → lv_has ls 4 [(3, .int (12 : Int32)), (2, .int x2_2), (0, .ref fa), (1, .int p1)] → W p l e (zRm 0 0) s m args below meth c H locs 0 0 Q (F0 m 5 ls []) := by
    intro n
    induction n with
    | zero => intro x2_2 ff_2 H locs ls hL; exact olp_0 hL
    | succ n ih =>
      intro x2_2 ff_2 H locs ls hL2 hP hD hS hl
      obtain ⟨z, hz2, hL2⟩ := olp_e hL2
      have hz2 : fJ7_fill_53178_b5 p1 x2_2 ff_2 = some z := hz2
      unfold fJ7_fill_53178_b5 at hz2
      refine lv_iload_n (pc := 5) hx hb dJ7_fill_53178_5 rfl (lv_at hl 1 rfl) ?_
      refine lv_iload_n (pc := 6) hx hb dJ7_fill_53178_6 rfl (lv_at hl 0 rfl) ?_
      refine lv_icmp_ge (pc := 7) (tgt := 20) hx hb dJ7_fill_53178_7 (by decide) (fun hc => ?_) (fun hc => ?_)
      · have hz2 := oif_t hz2 hc
        have hE := olp_r hz2 hL2
        cases hE
        exact ex2 _ _ _ hP hD hS (lv_sub hl [] rfl)
      · have hz2 := oif_f hz2 hc
        refine lv_aload_n (pc := 10) hx hb dJ7_fill_53178_10 rfl (lv_at hl 2 rfl) ?_
        refine lv_iload_n (pc := 11) hx hb dJ7_fill_53178_11 rfl (lv_at hl 1 rfl) ?_
        refine lv_iload_n (pc := 12) hx hb dJ7_fill_53178_12 rfl (lv_at hl 3 rfl) ?_
        obtain ⟨hg3, hz2⟩ := ogd_e hz2
        refine va_iast (pc := 13) hx hb hK hP hD hS 0 0 rfl rfl hg3 dJ7_fill_53178_13 (fun H locs hP hD hS => ?_)
        have hP : va_P D vwCl (wJ7_fill_53178 cI cZ cM cS fa (upd ff_2 (Int32.toNatClampNeg x2_2) p1)) H := hP
        have hD : va_D A (wJ7_fill_53178 cI cZ cM cS fa (upd ff_2 (Int32.toNatClampNeg x2_2) p1)) := hD
        refine lv_iinc (v := (x2_2 + (1 : Int32))) (lv' := [(2, .int (x2_2 + (1 : Int32))), (3, .int (12 : Int32)), (0, .ref fa), (1, .int p1)]) (pc := 14) hx hb dJ7_fill_53178_14 hl (k := 1) rfl rfl (by decide) rfl (fun ls hl => ?_)
        refine lv_goto (pc := 17) (tgt := 5) hx hb dJ7_fill_53178_17 (by decide) ?_
        exact ih _ _ _ _ _ (olp_l hz2 hL2) hP hD hS (lv_sub hl [1, 0, 2, 3] rfl)
  exact lp2 oFu _ _ _ _ _ hL2 hP hD hS (lv_sub hl [0, 1, 2, 3] rfl)
def fX5_least (p0 : Int32) : Option (Int32) := (ob1 (fJ6_numberOfTrailingZeros_0f7a4 p0) (fun r_1 => (some r_1)))
abbrev wX5_least (cI cZ cM cS : ClassId) : va_W := []
set_option maxHeartbeats 4000000 in
set_option maxRecDepth 100000 in
theorem tX5_least (l : Launch) (D : va_G) (cI cZ cM cS : ClassId) (p0 : Int32) {r : Int32} (hF : fX5_least p0 = some r) : zCR l yX5_least wsX5_least (zRm 1 21) D (zTy cI cZ cM cS) [.int p0] (wX5_least cI cZ cM cS ) r := by
  unfold fX5_least at hF
  refine zCR_of (cc := cX5_least) (maxL := 1) (own := RX5) (by decide +kernel) rfl rfl (Nat.le_of_ble_eq_true rfl) (fun p e s m args below meth c Q ls E hK hP hRet hl => ?_)
  have hl : lv_has ls 1 [(0, .int p0)] := hl
  obtain ⟨hx, hb, hml, hown, hts⟩ := id E
  refine lv_iload_n (pc := 0) hx hb dX5_least_0 rfl (lv_at hl 0 rfl) ?_
  obtain ⟨r_1, hC1, hF⟩ := ob1_e hF
  refine zSr (pc := 1) (As := [.int p0]) (rest := []) E (tJ6_numberOfTrailingZeros_0f7a4 l D cI cZ cM cS p0 hC1) 1 gX5_least_J6_numberOfTrailingZeros_0f7a4 rfl rfl rfl (by decide +kernel) ⟨Nat.le_of_ble_eq_true rfl, Nat.le_of_ble_eq_true rfl⟩ hK hP [] rfl rfl hl.1 rfl (Nat.le_of_ble_eq_true rfl) dX5_least_1 ⟨Nat.zero_le _, Nat.zero_le _⟩ ?_
  cases hF
  exact hRet _ _ rfl dX5_least_4
def fX5_sortByLeast_b19 (qf_5 : (Nat → Int32)) (x1_2 : Int32) (x3_5 : Int32) (qf_8 : (Nat → Int32)) : Option ((Int32 × (Nat → Int32)) ⊕ (Int32 × (Nat → Int32))) := (if x3_5 ≤ (0 : Int32) then (some (.inr (x3_5, qf_8))) else (ogd (x3_5 - (1 : Int32)) 12 (ob1 (fX5_least (qf_8 (Int32.toNatClampNeg (x3_5 - (1 : Int32))))) (fun r_7 => (ob1 (fX5_least (qf_5 (Int32.toNatClampNeg x1_2))) (fun r_8 => (if r_7 ≤ r_8 then (some (.inr (x3_5, qf_8))) else (ogd (x3_5 - (1 : Int32)) 12 (ogd x3_5 12 (some (.inl ((x3_5 + (-1 : Int32)), (upd qf_8 (Int32.toNatClampNeg x3_5) (qf_8 (Int32.toNatClampNeg (x3_5 - (1 : Int32)))))))))))))))))
def fX5_sortByLeast_s19 (qf_5 : (Nat → Int32)) (x1_2 : Int32) (sg_ : Int32 × (Nat → Int32)) : Option ((Int32 × (Nat → Int32)) ⊕ (Int32 × (Nat → Int32))) := fX5_sortByLeast_b19 qf_5 x1_2 sg_.1 sg_.2
def fX5_sortByLeast_b2 (qc : Int32) (x1_2 : Int32) (qf_5 : (Nat → Int32)) : Option ((Int32 × (Nat → Int32)) ⊕ ((Nat → Int32))) := (if qc ≤ x1_2 then (some (.inr qf_5)) else (ogd x1_2 12 (ob2 (olp (fX5_sortByLeast_s19 qf_5 x1_2) oFu (x1_2, qf_5)) (fun x3_6 qf_9 => (ogd x3_6 12 (some (.inl ((x1_2 + (1 : Int32)), (upd qf_9 (Int32.toNatClampNeg x3_6) (qf_5 (Int32.toNatClampNeg x1_2)))))))))))
def fX5_sortByLeast_s2 (qc : Int32) (sg_ : Int32 × (Nat → Int32)) : Option ((Int32 × (Nat → Int32)) ⊕ ((Nat → Int32))) := fX5_sortByLeast_b2 qc sg_.1 sg_.2
def fX5_sortByLeast (qc : Int32) (qf : (Nat → Int32)) : Option ((Nat → Int32)) := (ob1 (olp (fX5_sortByLeast_s2 qc) oFu ((1 : Int32), qf)) (fun qf_6 => (some qf_6)))
abbrev wX5_sortByLeast (cI cZ cM cS : ClassId) (qo qs : Nat) (qc : Int32) (qf : (Nat → Int32)) : va_W := [(qo, .inr (5, [.ref qs, .int qc])), (qs, .inl (cI, 12, .inl qf))]
set_option maxHeartbeats 4000000 in
set_option maxRecDepth 100000 in
theorem tX5_sortByLeast (l : Launch) (D : va_G) (cI cZ cM cS : ClassId) (qo qs : Nat) (qc : Int32) (qf : (Nat → Int32)) {qf' : (Nat → Int32)} (hF : fX5_sortByLeast qc qf = some qf') : zCW l yX5_sortByLeast wsX5_sortByLeast (zRm 2 41) D (zTy cI cZ cM cS) [.ref qo] (wX5_sortByLeast cI cZ cM cS qo qs qc qf) (wX5_sortByLeast cI cZ cM cS qo qs qc qf') none := by
  unfold fX5_sortByLeast at hF
  refine zCW_ofv (cc := cX5_sortByLeast) (maxL := 4) (own := RX5) (by decide) rfl rfl (Nat.le_of_ble_eq_true rfl) (fun p e s m args below meth c Q ls A E hA hK hP hD hRet hS hl => ?_)
  refine zgen (fun H locs hP hS => ?_) hP hS
  have hl : lv_has ls 4 [(0, .ref qo)] := hl
  obtain ⟨hx, hb, hml, hown, hts⟩ := id E
  have inX5 : ∀ w ∈ u_ws RX5 TX5 2, w ∈ wsX5_sortByLeast := by decide +kernel
  have fl15 := hts (.fieldLink RX5 15 "SplitClasses$Row" "count" "I") (by decide +kernel)
  have fl9 := hts (.fieldLink RX5 9 "SplitClasses$Row" "sets" "[I") (by decide +kernel)
  refine lv_iconst (v := (1 : Int32)) (pc := 0) hx hb dX5_sortByLeast_0 (by decide) ?_
  refine lv_istore_n (lv' := [(1, .int (1 : Int32)), (0, .ref qo)]) (pc := 1) hx hb dX5_sortByLeast_1 rfl hl (by decide) rfl (fun ls hl => ?_)
  obtain ⟨qf_6, hL14, hF⟩ := ob1_e hF
  have ex14 : ∀ (H : Heap) (locs : List Loc) (ls : Array Slot), va_P D vwCl (wX5_sortByLeast cI cZ cM cS qo qs qc qf_6) H → va_D A (wX5_sortByLeast cI cZ cM cS qo qs qc qf_6) → va_S A s.heap H locs → lv_has ls 4 [] → W p l e (zRm 2 41) s m args below meth c H locs 0 0 Q (F0 m 74 ls []) := by
    intro H locs ls hP hD hS hl
    cases hF
    exact hRet _ _ _ _ dX5_sortByLeast_74 hP hD hS
  have lp14 : ∀ (n : Nat) (x1_2 : Int32) (qf_5 : (Nat → Int32)) (H : Heap) (locs : List Loc) (ls : Array Slot), olp (fX5_sortByLeast_s2 qc) n (x1_2, qf_5) = some qf_6 → va_P D vwCl (wX5_sortByLeast cI cZ cM cS qo qs qc qf_5) H → va_D A (wX5_sortByLeast cI cZ cM cS qo qs qc qf_5) → va_S A s.heap H locs → lv_has ls 4 [(1, .int x1_2), (0, .ref qo)] → W p l e (zRm 2 41) s m args below meth c H locs 0 0 Q (F0 m 2 ls []) := by
    intro n
    induction n with
    | zero => intro x1_2 qf_5 H locs ls hL; exact olp_0 hL
    | succ n ih =>
      intro x1_2 qf_5 H locs ls hL14 hP hD hS hl
      obtain ⟨z, hz14, hL14⟩ := olp_e hL14
      have hz14 : fX5_sortByLeast_b2 qc x1_2 qf_5 = some z := hz14
      unfold fX5_sortByLeast_b2 at hz14
      refine lv_iload_n (pc := 2) hx hb dX5_sortByLeast_2 rfl (lv_at hl 0 rfl) ?_
      refine lv_aload_n (pc := 3) hx hb dX5_sortByLeast_3 rfl (lv_at hl 1 rfl) ?_
      refine va_get (pc := 4) (ci := 5) (C := RX5) (T := TX5) (N := 2) hx hb hts inX5 hown hK hP 0 rfl rfl 1 (by decide) fl15 (fun _ h9 => h9) rfl dX5_sortByLeast_4 ?_
      refine lv_icmp_ge (pc := 7) (tgt := 74) hx hb dX5_sortByLeast_7 (by decide) (fun hc => ?_) (fun hc => ?_)
      · have hz14 := oif_t hz14 hc
        have hE := olp_r hz14 hL14
        cases hE
        exact ex14 _ _ _ hP hD hS (lv_sub hl [] rfl)
      · have hz14 := oif_f hz14 hc
        refine lv_aload_n (pc := 10) hx hb dX5_sortByLeast_10 rfl (lv_at hl 1 rfl) ?_
        refine va_get (pc := 11) (ci := 5) (C := RX5) (T := TX5) (N := 2) hx hb hts inX5 hown hK hP 0 rfl rfl 0 (by decide) fl9 (fun _ h9 => h9) rfl dX5_sortByLeast_11 ?_
        refine lv_iload_n (pc := 14) hx hb dX5_sortByLeast_14 rfl (lv_at hl 0 rfl) ?_
        obtain ⟨hg15, hz14⟩ := ogd_e hz14
        refine va_iald (pc := 15) hx hb hK hP 1 0 rfl rfl hg15 dX5_sortByLeast_15 ?_
        refine lv_istore_n (lv' := [(2, .int (qf_5 (Int32.toNatClampNeg x1_2))), (1, .int x1_2), (0, .ref qo)]) (pc := 16) hx hb dX5_sortByLeast_16 rfl hl (by decide) rfl (fun ls hl => ?_)
        refine lv_iload_n (pc := 17) hx hb dX5_sortByLeast_17 rfl (lv_at hl 1 rfl) ?_
        refine lv_istore_n (lv' := [(3, .int x1_2), (2, .int (qf_5 (Int32.toNatClampNeg x1_2))), (1, .int x1_2), (0, .ref qo)]) (pc := 18) hx hb dX5_sortByLeast_18 rfl hl (by decide) rfl (fun ls hl => ?_)
        obtain ⟨x3_6, qf_9, hL21, hz14⟩ := ob2_e hz14
        have ex21 : ∀ (H : Heap) (locs : List Loc) (ls : Array Slot), va_P D vwCl (wX5_sortByLeast cI cZ cM cS qo qs qc qf_9) H → va_D A (wX5_sortByLeast cI cZ cM cS qo qs qc qf_9) → va_S A s.heap H locs → lv_has ls 4 [(3, .int x3_6), (2, .int (qf_5 (Int32.toNatClampNeg x1_2))), (1, .int x1_2), (0, .ref qo)] → W p l e (zRm 2 41) s m args below meth c H locs 0 0 Q (F0 m 61 ls []) := by
          intro H locs ls hP hD hS hl
          refine lv_aload_n (pc := 61) hx hb dX5_sortByLeast_61 rfl (lv_at hl 3 rfl) ?_
          refine va_get (pc := 62) (ci := 5) (C := RX5) (T := TX5) (N := 2) hx hb hts inX5 hown hK hP 0 rfl rfl 0 (by decide) fl9 (fun _ h9 => h9) rfl dX5_sortByLeast_62 ?_
          refine lv_iload_n (pc := 65) hx hb dX5_sortByLeast_65 rfl (lv_at hl 0 rfl) ?_
          refine lv_iload_n (pc := 66) hx hb dX5_sortByLeast_66 rfl (lv_at hl 1 rfl) ?_
          obtain ⟨hg27, hz14⟩ := ogd_e hz14
          refine va_iast (pc := 67) hx hb hK hP hD hS 1 0 rfl rfl hg27 dX5_sortByLeast_67 (fun H locs hP hD hS => ?_)
          have hP : va_P D vwCl (wX5_sortByLeast cI cZ cM cS qo qs qc (upd qf_9 (Int32.toNatClampNeg x3_6) (qf_5 (Int32.toNatClampNeg x1_2)))) H := hP
          have hD : va_D A (wX5_sortByLeast cI cZ cM cS qo qs qc (upd qf_9 (Int32.toNatClampNeg x3_6) (qf_5 (Int32.toNatClampNeg x1_2)))) := hD
          refine lv_iinc (v := (x1_2 + (1 : Int32))) (lv' := [(1, .int (x1_2 + (1 : Int32))), (3, .int x3_6), (2, .int (qf_5 (Int32.toNatClampNeg x1_2))), (0, .ref qo)]) (pc := 68) hx hb dX5_sortByLeast_68 hl (k := 2) rfl rfl (by decide) rfl (fun ls hl => ?_)
          refine lv_goto (pc := 71) (tgt := 2) hx hb dX5_sortByLeast_71 (by decide) ?_
          exact ih _ _ _ _ _ (olp_l hz14 hL14) hP hD hS (lv_sub hl [0, 3] rfl)
        have lp21 : ∀ (n : Nat) (x3_5 : Int32) (qf_8 : (Nat → Int32)) (H : Heap) (locs : List Loc) (ls : Array Slot), olp (fX5_sortByLeast_s19 qf_5 x1_2) n (x3_5, qf_8) = some (x3_6, qf_9) → va_P D vwCl (wX5_sortByLeast cI cZ cM cS qo qs qc qf_8) H → va_D A (wX5_sortByLeast cI cZ cM cS qo qs qc qf_8) → va_S A s.heap H locs → lv_has ls 4 [(3, .int x3_5), (2, .int (qf_5 (Int32.toNatClampNeg x1_2))), (1, .int x1_2), (0, .ref qo)] → W p l e (zRm 2 41) s m args below meth c H locs 0 0 Q (F0 m 19 ls []) := by
          intro n
          induction n with
          | zero => intro x3_5 qf_8 H locs ls hL; exact olp_0 hL
          | succ n ih =>
            intro x3_5 qf_8 H locs ls hL21 hP hD hS hl
            obtain ⟨z, hz21, hL21⟩ := olp_e hL21
            have hz21 : fX5_sortByLeast_b19 qf_5 x1_2 x3_5 qf_8 = some z := hz21
            unfold fX5_sortByLeast_b19 at hz21
            refine lv_iload_n (pc := 19) hx hb dX5_sortByLeast_19 rfl (lv_at hl 0 rfl) ?_
            refine lv_if_le (pc := 20) (tgt := 61) hx hb dX5_sortByLeast_20 (by decide) (fun hc => ?_) (fun hc => ?_)
            · have hz21 := oif_t hz21 hc
              have hE := olp_r hz21 hL21
              cases hE
              exact ex21 _ _ _ hP hD hS (lv_sub hl [0, 1, 2, 3] rfl)
            · have hz21 := oif_f hz21 hc
              refine lv_aload_n (pc := 23) hx hb dX5_sortByLeast_23 rfl (lv_at hl 3 rfl) ?_
              refine va_get (pc := 24) (ci := 5) (C := RX5) (T := TX5) (N := 2) hx hb hts inX5 hown hK hP 0 rfl rfl 0 (by decide) fl9 (fun _ h9 => h9) rfl dX5_sortByLeast_24 ?_
              refine lv_iload_n (pc := 27) hx hb dX5_sortByLeast_27 rfl (lv_at hl 0 rfl) ?_
              refine lv_iconst (v := (1 : Int32)) (pc := 28) hx hb dX5_sortByLeast_28 (by decide) ?_
              refine lv_isub (pc := 29) hx hb dX5_sortByLeast_29 ?_
              obtain ⟨hg22, hz21⟩ := ogd_e hz21
              refine va_iald (pc := 30) hx hb hK hP 1 0 rfl rfl hg22 dX5_sortByLeast_30 ?_
              obtain ⟨r_7, hC23, hz21⟩ := ob1_e hz21
              refine zSr (pc := 31) (As := [.int (qf_8 (Int32.toNatClampNeg (x3_5 - (1 : Int32))))]) (rest := []) E (tX5_least l D cI cZ cM cS (qf_8 (Int32.toNatClampNeg (x3_5 - (1 : Int32)))) hC23) 1 gX5_sortByLeast_X5_least rfl rfl rfl (by decide +kernel) ⟨Nat.le_of_ble_eq_true rfl, Nat.le_of_ble_eq_true rfl⟩ hK hP [] rfl rfl hl.1 rfl (Nat.le_of_ble_eq_true rfl) dX5_sortByLeast_31 ⟨Nat.zero_le _, Nat.zero_le _⟩ ?_
              refine lv_iload_n (pc := 34) hx hb dX5_sortByLeast_34 rfl (lv_at hl 1 rfl) ?_
              obtain ⟨r_8, hC24, hz21⟩ := ob1_e hz21
              refine zSr (pc := 35) (As := [.int (qf_5 (Int32.toNatClampNeg x1_2))]) (rest := [.int r_7]) E (tX5_least l D cI cZ cM cS (qf_5 (Int32.toNatClampNeg x1_2)) hC24) 1 gX5_sortByLeast_X5_least rfl rfl rfl (by decide +kernel) ⟨Nat.le_of_ble_eq_true rfl, Nat.le_of_ble_eq_true rfl⟩ hK hP [] rfl rfl hl.1 rfl (Nat.le_of_ble_eq_true rfl) dX5_sortByLeast_35 ⟨Nat.zero_le _, Nat.zero_le _⟩ ?_
              refine lv_icmp_le (pc := 38) (tgt := 61) hx hb dX5_sortByLeast_38 (by decide) (fun hc => ?_) (fun hc => ?_)
              · have hz21 := oif_t hz21 hc
                have hE := olp_r hz21 hL21
                cases hE
                exact ex21 _ _ _ hP hD hS (lv_sub hl [0, 1, 2, 3] rfl)
              · have hz21 := oif_f hz21 hc
                refine lv_aload_n (pc := 41) hx hb dX5_sortByLeast_41 rfl (lv_at hl 3 rfl) ?_
                refine va_get (pc := 42) (ci := 5) (C := RX5) (T := TX5) (N := 2) hx hb hts inX5 hown hK hP 0 rfl rfl 0 (by decide) fl9 (fun _ h9 => h9) rfl dX5_sortByLeast_42 ?_
                refine lv_iload_n (pc := 45) hx hb dX5_sortByLeast_45 rfl (lv_at hl 0 rfl) ?_
                refine lv_aload_n (pc := 46) hx hb dX5_sortByLeast_46 rfl (lv_at hl 3 rfl) ?_
                refine va_get (pc := 47) (ci := 5) (C := RX5) (T := TX5) (N := 2) hx hb hts inX5 hown hK hP 0 rfl rfl 0 (by decide) fl9 (fun _ h9 => h9) rfl dX5_sortByLeast_47 ?_
                refine lv_iload_n (pc := 50) hx hb dX5_sortByLeast_50 rfl (lv_at hl 0 rfl) ?_
                refine lv_iconst (v := (1 : Int32)) (pc := 51) hx hb dX5_sortByLeast_51 (by decide) ?_
                refine lv_isub (pc := 52) hx hb dX5_sortByLeast_52 ?_
                obtain ⟨hg25, hz21⟩ := ogd_e hz21
                refine va_iald (pc := 53) hx hb hK hP 1 0 rfl rfl hg25 dX5_sortByLeast_53 ?_
                obtain ⟨hg26, hz21⟩ := ogd_e hz21
                refine va_iast (pc := 54) hx hb hK hP hD hS 1 0 rfl rfl hg26 dX5_sortByLeast_54 (fun H locs hP hD hS => ?_)
                have hP : va_P D vwCl (wX5_sortByLeast cI cZ cM cS qo qs qc (upd qf_8 (Int32.toNatClampNeg x3_5) (qf_8 (Int32.toNatClampNeg (x3_5 - (1 : Int32)))))) H := hP
                have hD : va_D A (wX5_sortByLeast cI cZ cM cS qo qs qc (upd qf_8 (Int32.toNatClampNeg x3_5) (qf_8 (Int32.toNatClampNeg (x3_5 - (1 : Int32)))))) := hD
                refine lv_iinc (v := (x3_5 + (-1 : Int32))) (lv' := [(3, .int (x3_5 + (-1 : Int32))), (2, .int (qf_5 (Int32.toNatClampNeg x1_2))), (1, .int x1_2), (0, .ref qo)]) (pc := 55) hx hb dX5_sortByLeast_55 hl (k := 0) rfl rfl (by decide) rfl (fun ls hl => ?_)
                refine lv_goto (pc := 58) (tgt := 19) hx hb dX5_sortByLeast_58 (by decide) ?_
                exact ih _ _ _ _ _ (olp_l hz21 hL21) hP hD hS (lv_sub hl [0, 1, 2, 3] rfl)
        exact lp21 oFu _ _ _ _ _ hL21 hP hD hS (lv_sub hl [0, 1, 2, 3] rfl)
  exact lp14 oFu _ _ _ _ _ hL14 hP hD hS (lv_sub hl [0, 1] rfl)
def fX5_differingFrom_b4 (qc : Int32) (uc : Int32) (uf : (Nat → Int32)) (qf : (Nat → Int32)) (x3_2 : Int32) (x2_2 : Int32) : Option ((Int32 × Int32) ⊕ (Int32)) := (if qc ≤ x3_2 then (some (.inr x2_2)) else (ogd x3_2 12 (ob1 (fX5_setAt x3_2 uc uf) (fun r_2 => (if (qf (Int32.toNatClampNeg x3_2)) = r_2 then (some (.inl ((x3_2 + (1 : Int32)), x2_2))) else (some (.inl ((x3_2 + (1 : Int32)), (x2_2 + (1 : Int32))))))))))
def fX5_differingFrom_s4 (qc : Int32) (uc : Int32) (uf : (Nat → Int32)) (qf : (Nat → Int32)) (sg_ : Int32 × Int32) : Option ((Int32 × Int32) ⊕ (Int32)) := fX5_differingFrom_b4 qc uc uf qf sg_.1 sg_.2
def fX5_differingFrom (qc : Int32) (qf : (Nat → Int32)) (uc : Int32) (uf : (Nat → Int32)) : Option (Int32) := (ob1 (olp (fX5_differingFrom_s4 qc uc uf qf) oFu ((0 : Int32), (0 : Int32))) (fun x2_3 => (some x2_3)))
abbrev wX5_differingFrom (cI cZ cM cS : ClassId) (qo qs uo us : Nat) (qc : Int32) (qf : (Nat → Int32)) (uc : Int32) (uf : (Nat → Int32)) : va_W := [(qo, .inr (5, [.ref qs, .int qc])), (qs, .inl (cI, 12, .inl qf)), (uo, .inr (5, [.ref us, .int uc])), (us, .inl (cI, 12, .inl uf))]
set_option maxHeartbeats 4000000 in
set_option maxRecDepth 100000 in
theorem tX5_differingFrom (l : Launch) (D : va_G) (cI cZ cM cS : ClassId) (qo qs uo us : Nat) (qc : Int32) (qf : (Nat → Int32)) (uc : Int32) (uf : (Nat → Int32)) {r : Int32} (hF : fX5_differingFrom qc qf uc uf = some r) : zCR l yX5_differingFrom wsX5_differingFrom (zRm 2 42) D (zTy cI cZ cM cS) [.ref qo, .ref uo] (wX5_differingFrom cI cZ cM cS qo qs uo us qc qf uc uf) r := by
  unfold fX5_differingFrom at hF
  refine zCR_of (cc := cX5_differingFrom) (maxL := 4) (own := RX5) (by decide +kernel) rfl rfl (Nat.le_of_ble_eq_true rfl) (fun p e s m args below meth c Q ls E hK hP hRet hl => ?_)
  have hl : lv_has ls 4 [(0, .ref qo), (1, .ref uo)] := hl
  obtain ⟨hx, hb, hml, hown, hts⟩ := id E
  have inX5 : ∀ w ∈ u_ws RX5 TX5 2, w ∈ wsX5_differingFrom := by decide +kernel
  have fl15 := hts (.fieldLink RX5 15 "SplitClasses$Row" "count" "I") (by decide +kernel)
  have fl9 := hts (.fieldLink RX5 9 "SplitClasses$Row" "sets" "[I") (by decide +kernel)
  refine lv_iconst (v := (0 : Int32)) (pc := 0) hx hb dX5_differingFrom_0 (by decide) ?_
  refine lv_istore_n (lv' := [(2, .int (0 : Int32)), (0, .ref qo), (1, .ref uo)]) (pc := 1) hx hb dX5_differingFrom_1 rfl hl (by decide) rfl (fun ls hl => ?_)
  refine lv_iconst (v := (0 : Int32)) (pc := 2) hx hb dX5_differingFrom_2 (by decide) ?_
  refine lv_istore_n (lv' := [(3, .int (0 : Int32)), (2, .int (0 : Int32)), (0, .ref qo), (1, .ref uo)]) (pc := 3) hx hb dX5_differingFrom_3 rfl hl (by decide) rfl (fun ls hl => ?_)
  obtain ⟨x2_3, hL3, hF⟩ := ob1_e hF
  have ex3 : ∀ (ls : Array Slot), lv_has ls 4 [(2, .int x2_3)] → W p l e (zRm 2 42) s m args below meth c s.heap [] 0 0 Q (F0 m 35 ls []) := by
    intro ls hl
    refine lv_iload_n (pc := 35) hx hb dX5_differingFrom_35 rfl (lv_at hl 0 rfl) ?_
    cases hF
    exact hRet _ _ rfl dX5_differingFrom_36
  have lp3 : ∀ (n : Nat) (x3_2 : Int32) (x2_2 : Int32) (ls : Array Slot), olp (fX5_differingFrom_s4 qc uc uf qf) n (x3_2, x2_2) = some x2_3 → lv_has ls 4 [(3, .int x3_2), (2, .int x2_2), (0, .ref qo), (1, .ref uo)] → W p l e (zRm 2 42) s m args below meth c s.heap [] 0 0 Q (F0 m 4 ls []) := by
    intro n
    induction n with
    | zero => intro x3_2 x2_2 ls hL; exact olp_0 hL
    | succ n ih =>
      intro x3_2 x2_2 ls hL3 hl
      obtain ⟨z, hz3, hL3⟩ := olp_e hL3
      have hz3 : fX5_differingFrom_b4 qc uc uf qf x3_2 x2_2 = some z := hz3
      unfold fX5_differingFrom_b4 at hz3
      refine lv_iload_n (pc := 4) hx hb dX5_differingFrom_4 rfl (lv_at hl 0 rfl) ?_
      refine lv_aload_n (pc := 5) hx hb dX5_differingFrom_5 rfl (lv_at hl 2 rfl) ?_
      refine va_get (pc := 6) (ci := 5) (C := RX5) (T := TX5) (N := 2) hx hb hts inX5 hown hK hP 0 rfl rfl 1 (by decide) fl15 (fun _ h9 => h9) rfl dX5_differingFrom_6 ?_
      refine lv_icmp_ge (pc := 9) (tgt := 35) hx hb dX5_differingFrom_9 (by decide) (fun hc => ?_) (fun hc => ?_)
      · have hz3 := oif_t hz3 hc
        have hE := olp_r hz3 hL3
        cases hE
        exact ex3 _ (lv_sub hl [1] rfl)
      · have hz3 := oif_f hz3 hc
        refine lv_aload_n (pc := 12) hx hb dX5_differingFrom_12 rfl (lv_at hl 2 rfl) ?_
        refine va_get (pc := 13) (ci := 5) (C := RX5) (T := TX5) (N := 2) hx hb hts inX5 hown hK hP 0 rfl rfl 0 (by decide) fl9 (fun _ h9 => h9) rfl dX5_differingFrom_13 ?_
        refine lv_iload_n (pc := 16) hx hb dX5_differingFrom_16 rfl (lv_at hl 0 rfl) ?_
        obtain ⟨hg4, hz3⟩ := ogd_e hz3
        refine va_iald (pc := 17) hx hb hK hP 1 0 rfl rfl hg4 dX5_differingFrom_17 ?_
        refine lv_aload_n (pc := 18) hx hb dX5_differingFrom_18 rfl (lv_at hl 3 rfl) ?_
        refine lv_iload_n (pc := 19) hx hb dX5_differingFrom_19 rfl (lv_at hl 0 rfl) ?_
        obtain ⟨r_2, hC5, hz3⟩ := ob1_e hz3
        refine zVr (pc := 20) (As := [.int x3_2]) (rest := [.int (qf (Int32.toNatClampNeg x3_2))]) E (tX5_setAt l D cI cZ cM cS uo us uc uf x3_2 hC5) 1 gX5_differingFrom_X5_setAt rfl rfl rfl (by decide +kernel) ⟨Nat.le_of_ble_eq_true rfl, Nat.le_of_ble_eq_true rfl⟩ hK hP [2, 3] rfl 0 5 rfl rfl rfl rfl hl.1 rfl (Nat.le_of_ble_eq_true rfl) dX5_differingFrom_20 ⟨Nat.zero_le _, Nat.zero_le _⟩ ?_
        refine lv_icmp_eq (pc := 23) (tgt := 29) hx hb dX5_differingFrom_23 (by decide) (fun hc => ?_) (fun hc => ?_)
        · have hz3 := oif_t hz3 hc
          refine lv_iinc (v := (x3_2 + (1 : Int32))) (lv' := [(3, .int (x3_2 + (1 : Int32))), (2, .int x2_2), (0, .ref qo), (1, .ref uo)]) (pc := 29) hx hb dX5_differingFrom_29 hl (k := 0) rfl rfl (by decide) rfl (fun ls hl => ?_)
          refine lv_goto (pc := 32) (tgt := 4) hx hb dX5_differingFrom_32 (by decide) ?_
          exact ih _ _ _ (olp_l hz3 hL3) (lv_sub hl [0, 1, 2, 3] rfl)
        · have hz3 := oif_f hz3 hc
          refine lv_iinc (v := (x2_2 + (1 : Int32))) (lv' := [(2, .int (x2_2 + (1 : Int32))), (3, .int x3_2), (0, .ref qo), (1, .ref uo)]) (pc := 26) hx hb dX5_differingFrom_26 hl (k := 1) rfl rfl (by decide) rfl (fun ls hl => ?_)
          refine lv_iinc (v := (x3_2 + (1 : Int32))) (lv' := [(3, .int (x3_2 + (1 : Int32))), (2, .int (x2_2 + (1 : Int32))), (0, .ref qo), (1, .ref uo)]) (pc := 29) hx hb dX5_differingFrom_29 hl (k := 1) rfl rfl (by decide) rfl (fun ls hl => ?_)
          refine lv_goto (pc := 32) (tgt := 4) hx hb dX5_differingFrom_32 (by decide) ?_
          exact ih _ _ _ (olp_l hz3 hL3) (lv_sub hl [0, 1, 2, 3] rfl)
  exact lp3 oFu _ _ _ hL3 (lv_sub hl [0, 1, 2, 3] rfl)
def fX5_takeLeast (qc : Int32) (qf : (Nat → Int32)) : Option (Int32 × Int32 × (Nat → Int32)) := (if qc = (0 : Int32) then (some ((-1 : Int32), qc, qf)) else (ob1 (fX5_least (qf 0)) (fun r_1 => (if ((upd qf 0 ((qf 0) &&& ((qf 0) - (1 : Int32)))) 0) = (0 : Int32) then (ob2 (fX5_closePlace (0 : Int32) qc (upd qf 0 ((qf 0) &&& ((qf 0) - (1 : Int32))))) (fun qc_1 qf_1 => (some (r_1, qc_1, qf_1)))) else (some (r_1, qc, (upd qf 0 ((qf 0) &&& ((qf 0) - (1 : Int32))))))))))
abbrev wX5_takeLeast (cI cZ cM cS : ClassId) (qo qs : Nat) (qc : Int32) (qf : (Nat → Int32)) : va_W := [(qo, .inr (5, [.ref qs, .int qc])), (qs, .inl (cI, 12, .inl qf))]
set_option maxHeartbeats 4000000 in
set_option maxRecDepth 100000 in
theorem tX5_takeLeast (l : Launch) (D : va_G) (cI cZ cM cS : ClassId) (qo qs : Nat) (qc : Int32) (qf : (Nat → Int32)) {r : Int32} {qc' : Int32} {qf' : (Nat → Int32)} (hF : fX5_takeLeast qc qf = some (r, qc', qf')) : zCW l yX5_takeLeast wsX5_takeLeast (zRm 2 41) D (zTy cI cZ cM cS) [.ref qo] (wX5_takeLeast cI cZ cM cS qo qs qc qf) (wX5_takeLeast cI cZ cM cS qo qs qc' qf') (some (.int r)) := by
  unfold fX5_takeLeast at hF
  refine zCW_ofi (cc := cX5_takeLeast) (maxL := 2) (own := RX5) (by decide) rfl rfl (Nat.le_of_ble_eq_true rfl) (fun p e s m args below meth c Q ls A E hA hK hP hD hRet hS hl => ?_)
  refine zgen (fun H locs hP hS => ?_) hP hS
  have hl : lv_has ls 2 [(0, .ref qo)] := hl
  obtain ⟨hx, hb, hml, hown, hts⟩ := id E
  have inX5 : ∀ w ∈ u_ws RX5 TX5 2, w ∈ wsX5_takeLeast := by decide +kernel
  have fl15 := hts (.fieldLink RX5 15 "SplitClasses$Row" "count" "I") (by decide +kernel)
  have fl9 := hts (.fieldLink RX5 9 "SplitClasses$Row" "sets" "[I") (by decide +kernel)
  refine lv_aload_n (pc := 0) hx hb dX5_takeLeast_0 rfl (lv_at hl 0 rfl) ?_
  refine va_get (pc := 1) (ci := 5) (C := RX5) (T := TX5) (N := 2) hx hb hts inX5 hown hK hP 0 rfl rfl 1 (by decide) fl15 (fun _ h9 => h9) rfl dX5_takeLeast_1 ?_
  refine lv_if_ne (pc := 4) (tgt := 9) hx hb dX5_takeLeast_4 (by decide) (fun hc => ?_) (fun hc => ?_)
  · have hF := oif_f hF hc
    refine lv_aload_n (pc := 9) hx hb dX5_takeLeast_9 rfl (lv_at hl 0 rfl) ?_
    refine va_get (pc := 10) (ci := 5) (C := RX5) (T := TX5) (N := 2) hx hb hts inX5 hown hK hP 0 rfl rfl 0 (by decide) fl9 (fun _ h9 => h9) rfl dX5_takeLeast_10 ?_
    refine lv_iconst (v := (0 : Int32)) (pc := 13) hx hb dX5_takeLeast_13 (by decide) ?_
    refine z_iald (pc := 14) (k := 0) hx hb hK hP 1 0 rfl rfl (by decide) (by decide) dX5_takeLeast_14 ?_
    obtain ⟨r_1, hC1, hF⟩ := ob1_e hF
    refine zSr (pc := 15) (As := [.int (qf 0)]) (rest := []) E (tX5_least l D cI cZ cM cS (qf 0) hC1) 1 gX5_takeLeast_X5_least rfl rfl rfl (by decide +kernel) ⟨Nat.le_of_ble_eq_true rfl, Nat.le_of_ble_eq_true rfl⟩ hK hP [] rfl rfl hl.1 rfl (Nat.le_of_ble_eq_true rfl) dX5_takeLeast_15 ⟨Nat.zero_le _, Nat.zero_le _⟩ ?_
    refine lv_istore_n (lv' := [(1, .int r_1), (0, .ref qo)]) (pc := 18) hx hb dX5_takeLeast_18 rfl hl (by decide) rfl (fun ls hl => ?_)
    refine lv_aload_n (pc := 19) hx hb dX5_takeLeast_19 rfl (lv_at hl 1 rfl) ?_
    refine va_get (pc := 20) (ci := 5) (C := RX5) (T := TX5) (N := 2) hx hb hts inX5 hown hK hP 0 rfl rfl 0 (by decide) fl9 (fun _ h9 => h9) rfl dX5_takeLeast_20 ?_
    refine lv_iconst (v := (0 : Int32)) (pc := 23) hx hb dX5_takeLeast_23 (by decide) ?_
    refine lv_dup2_11 (pc := 24) hx hb dX5_takeLeast_24 rfl rfl ?_
    refine z_iald (pc := 25) (k := 0) hx hb hK hP 1 0 rfl rfl (by decide) (by decide) dX5_takeLeast_25 ?_
    refine lv_aload_n (pc := 26) hx hb dX5_takeLeast_26 rfl (lv_at hl 1 rfl) ?_
    refine va_get (pc := 27) (ci := 5) (C := RX5) (T := TX5) (N := 2) hx hb hts inX5 hown hK hP 0 rfl rfl 0 (by decide) fl9 (fun _ h9 => h9) rfl dX5_takeLeast_27 ?_
    refine lv_iconst (v := (0 : Int32)) (pc := 30) hx hb dX5_takeLeast_30 (by decide) ?_
    refine z_iald (pc := 31) (k := 0) hx hb hK hP 1 0 rfl rfl (by decide) (by decide) dX5_takeLeast_31 ?_
    refine lv_iconst (v := (1 : Int32)) (pc := 32) hx hb dX5_takeLeast_32 (by decide) ?_
    refine lv_isub (pc := 33) hx hb dX5_takeLeast_33 ?_
    refine lv_iand (pc := 34) hx hb dX5_takeLeast_34 ?_
    refine z_iast (pc := 35) (k := 0) hx hb hK hP hD hS 1 0 rfl rfl (by decide) (by decide) dX5_takeLeast_35 (fun H locs hP hD hS => ?_)
    have hP : va_P D vwCl (wX5_takeLeast cI cZ cM cS qo qs qc (upd qf 0 ((qf 0) &&& ((qf 0) - (1 : Int32))))) H := hP
    have hD : va_D A (wX5_takeLeast cI cZ cM cS qo qs qc (upd qf 0 ((qf 0) &&& ((qf 0) - (1 : Int32))))) := hD
    refine lv_aload_n (pc := 36) hx hb dX5_takeLeast_36 rfl (lv_at hl 1 rfl) ?_
    refine va_get (pc := 37) (ci := 5) (C := RX5) (T := TX5) (N := 2) hx hb hts inX5 hown hK hP 0 rfl rfl 0 (by decide) fl9 (fun _ h9 => h9) rfl dX5_takeLeast_37 ?_
    refine lv_iconst (v := (0 : Int32)) (pc := 40) hx hb dX5_takeLeast_40 (by decide) ?_
    refine z_iald (pc := 41) (k := 0) hx hb hK hP 1 0 rfl rfl (by decide) (by decide) dX5_takeLeast_41 ?_
    refine lv_if_ne (pc := 42) (tgt := 50) hx hb dX5_takeLeast_42 (by decide) (fun hc => ?_) (fun hc => ?_)
    · have hF := oif_f hF hc
      refine lv_iload_n (pc := 50) hx hb dX5_takeLeast_50 rfl (lv_at hl 0 rfl) ?_
      cases hF
      exact hRet _ _ _ _ rfl dX5_takeLeast_51 hP hD hS
    · have hF := oif_t hF hc
      refine lv_aload_n (pc := 45) hx hb dX5_takeLeast_45 rfl (lv_at hl 1 rfl) ?_
      refine lv_iconst (v := (0 : Int32)) (pc := 46) hx hb dX5_takeLeast_46 (by decide) ?_
      obtain ⟨qc_1, qf_1, hC2, hF⟩ := ob2_e hF
      refine zV (pc := 47) (As := [.int (0 : Int32)]) (rest := []) (wr := []) (w2 := (wX5_takeLeast cI cZ cM cS qo qs qc_1 qf_1)) E (tX5_closePlace l D cI cZ cM cS qo qs qc (upd qf 0 ((qf 0) &&& ((qf 0) - (1 : Int32)))) (0 : Int32) hC2) 1 gX5_takeLeast_X5_closePlace rfl rfl rfl (by decide +kernel) ⟨Nat.le_of_ble_eq_true rfl, Nat.le_of_ble_eq_true rfl⟩ hK hP hD hS hA [0, 1] [] [0, 1] (by decide) rfl rfl (by decide) (by decide) rfl (by decide) 0 5 rfl rfl rfl rfl hl.1 rfl (Nat.le_of_ble_eq_true rfl) dX5_takeLeast_47 ⟨Nat.zero_le _, Nat.zero_le _⟩ (fun H locs hP hD hS => ?_)
      refine W.eq (g2 := F0 m 50 ls []) rfl ?_
      refine lv_iload_n (pc := 50) hx hb dX5_takeLeast_50 rfl (lv_at hl 0 rfl) ?_
      cases hF
      exact hRet _ _ _ _ rfl dX5_takeLeast_51 hP hD hS
  · have hF := oif_t hF hc
    refine lv_iconst (v := (-1 : Int32)) (pc := 7) hx hb dX5_takeLeast_7 (by decide) ?_
    cases hF
    exact hRet _ _ _ _ rfl dX5_takeLeast_8 hP hD hS
