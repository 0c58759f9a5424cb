def fX8_isRefinedKind (p0 : Int32) : Option (Int32) := (if p0 < (0 : Int32) then (some (0 : Int32)) else (if (4 : Int32) < p0 then (some (0 : Int32)) else (some (1 : Int32))))
abbrev wX8_isRefinedKind (cI cZ cM cS : ClassId) : va_W := []
set_option maxHeartbeats 4000000 in
set_option maxRecDepth 100000 in
theorem tX8_isRefinedKind (l : Launch) (D : va_G) (cI cZ cM cS : ClassId) (p0 : Int32) {r : Int32} (hF : fX8_isRefinedKind p0 = some r) : zCR l yX8_isRefinedKind wsX8_isRefinedKind (zRm 0 0) D (zTy cI cZ cM cS) [.int p0] (wX8_isRefinedKind cI cZ cM cS ) r := by
  unfold fX8_isRefinedKind at hF
  refine zCR_of (cc := cX8_isRefinedKind) (maxL := 1) (own := RX8) (by decide +kernel) rfl rfl (Nat.le_of_ble_eq_true rfl) (fun p e s m args below meth c Q ls E hK hP hRet hl => ?_)
  have hl : lv_has ls 1 [(0, .int p0)] := hl
  obtain ⟨hx, hb, hml, hown, hts⟩ := id E
  refine lv_iload_n (pc := 0) hx hb dX8_isRefinedKind_0 rfl (lv_at hl 0 rfl) ?_
  refine lv_if_lt (pc := 1) (tgt := 13) hx hb dX8_isRefinedKind_1 (by decide) (fun hc => ?_) (fun hc => ?_)
  · have hF := oif_t hF hc
    refine lv_iconst (v := (0 : Int32)) (pc := 13) hx hb dX8_isRefinedKind_13 (by decide) ?_
    cases hF
    exact hRet _ _ rfl dX8_isRefinedKind_14
  · have hF := oif_f hF hc
    refine lv_iload_n (pc := 4) hx hb dX8_isRefinedKind_4 rfl (lv_at hl 0 rfl) ?_
    refine lv_iconst (v := (4 : Int32)) (pc := 5) hx hb dX8_isRefinedKind_5 (by decide) ?_
    refine lv_icmp_gt (pc := 6) (tgt := 13) hx hb dX8_isRefinedKind_6 (by decide) (fun hc => ?_) (fun hc => ?_)
    · have hF := oif_t hF hc
      refine lv_iconst (v := (0 : Int32)) (pc := 13) hx hb dX8_isRefinedKind_13 (by decide) ?_
      cases hF
      exact hRet _ _ rfl dX8_isRefinedKind_14
    · have hF := oif_f hF hc
      refine lv_iconst (v := (1 : Int32)) (pc := 9) hx hb dX8_isRefinedKind_9 (by decide) ?_
      refine lv_goto (pc := 10) (tgt := 14) hx hb dX8_isRefinedKind_10 (by decide) ?_
      cases hF
      exact hRet _ _ rfl dX8_isRefinedKind_14
def fX8_refusalOfSet (p1 : Int32) (p2 : Int32) (p3 : Int32) (sn : Int32) (sl : Int32) (sfin : Int32) (swk : Int32) (qc : Int32) (qf : (Nat → Int32)) : Option (Int32) := (if p1 = (0 : Int32) ∨ p1 = (1 : Int32) then (ob1 (fX6_hasItem p2 sn sl sfin swk) (fun r_1 => (if r_1 = (0 : Int32) then (some (-1000000001 : Int32)) else (some (-1 : Int32))))) else (if p1 = (2 : Int32) then (if p2 < (0 : Int32) then (some (-1000000001 : Int32)) else (if (8 : Int32) ≤ p2 then (some (-1000000001 : Int32)) else (some (-1 : Int32)))) else (if p1 = (3 : Int32) then (ob1 (fX6_hasLetter p2 sn sl sfin swk) (fun r_2 => (if r_2 = (0 : Int32) then (some (-1000000001 : Int32)) else (ob1 (fX5_hasPlace p3 qc qf) (fun r_3 => (if r_3 = (0 : Int32) then (some (-1000000001 : Int32)) else (some (-1 : Int32)))))))) else (if p1 = (4 : Int32) then (some (-1 : Int32)) else (if p1 = (5 : Int32) then (ob1 (fX5_hasPlace p2 qc qf) (fun r_4 => (if r_4 = (0 : Int32) then (some (-1000000001 : Int32)) else (if p3 < (0 : Int32) then (some (-1000000002 : Int32)) else (if (12 : Int32) < p3 then (some (-1000000002 : Int32)) else (some (-1 : Int32))))))) else (some (-1000000002 : Int32)))))))
abbrev wX8_refusalOfSet (cI cZ cM cS : ClassId) (xo so ho ko ia fo wo zo dr sca sna sla sra qs : Nat) (sn : Int32) (sl : Int32) (sfin : Int32) (swk : Int32) (qc : Int32) (qf : (Nat → Int32)) : va_W := [(xo, .inr (8, [.ref so, .ref ho, .ref ko, .ref ia, .ref fo, .ref wo, .ref zo, .ref dr])), (so, .inr (6, [.int sn, .int sl, .int sfin, .int swk, .ref sca, .ref sna, .ref sla, .ref sra])), (sra, .inr (5, [.ref qs, .int qc])), (qs, .inl (cI, 12, .inl qf))]
set_option maxHeartbeats 4000000 in
set_option maxRecDepth 100000 in
theorem tX8_refusalOfSet (l : Launch) (D : va_G) (cI cZ cM cS : ClassId) (xo so ho ko ia fo wo zo dr sca sna sla sra qs : Nat) (sn : Int32) (sl : Int32) (sfin : Int32) (swk : Int32) (qc : Int32) (qf : (Nat → Int32)) (p1 : Int32) (p2 : Int32) (p3 : Int32) {r : Int32} (hF : fX8_refusalOfSet p1 p2 p3 sn sl sfin swk qc qf = some r) : zCR l yX8_refusalOfSet wsX8_refusalOfSet (zRm 1 21) D (zTy cI cZ cM cS) [.ref xo, .int p1, .int p2, .int p3] (wX8_refusalOfSet cI cZ cM cS xo so ho ko ia fo wo zo dr sca sna sla sra qs sn sl sfin swk qc qf) r := by
  unfold fX8_refusalOfSet at hF
  refine zCR_of (cc := cX8_refusalOfSet) (maxL := 4) (own := RX8) (by decide +kernel) rfl rfl (Nat.le_of_ble_eq_true rfl) (fun p e s m args below meth c Q ls E hK hP hRet hl => ?_)
  have hl : lv_has ls 4 [(0, .ref xo), (1, .int p1), (2, .int p2), (3, .int p3)] := hl
  obtain ⟨hx, hb, hml, hown, hts⟩ := id E
  have inX6 : ∀ w ∈ u_ws RX6 TX6 8, w ∈ wsX8_refusalOfSet := by decide +kernel
  have inX8 : ∀ w ∈ u_ws RX8 TX8 8, w ∈ wsX8_refusalOfSet := by decide +kernel
  have fl10 := hts (.fieldLink RX8 10 "SplitClasses" "now" "LSplitClasses$State;") (by decide +kernel)
  have fl69 := hts (.fieldLink RX8 69 "SplitClasses$State" "row" "LSplitClasses$Row;") (by decide +kernel)
  have cn113 := hts (.constant RX8 113 (-1000000002)) (by decide +kernel)
  have cn118 := hts (.constant RX8 118 (-1000000001)) (by decide +kernel)
  refine lv_iload_n (pc := 0) hx hb dX8_refusalOfSet_0 rfl (lv_at hl 1 rfl) ?_
  refine lv_topi (fun xs exs => ?_)
  by_cases hk10100 : p1 = (0 : Int32) ∨ p1 = (1 : Int32)
  · have hF := oif_t hF hk10100
    have hg : W p l e (zRm 1 21) s m args below meth c s.heap [] 0 0 Q (F0 m 40 ls []) := by
      refine lv_aload_n (pc := 40) hx hb dX8_refusalOfSet_40 rfl (lv_at hl 0 rfl) ?_
      refine va_get (pc := 41) (ci := 8) (C := RX8) (T := TX8) (N := 8) hx hb hts inX8 hown hK hP 0 rfl rfl 0 (by decide) fl10 (fun _ h9 => h9) rfl dX8_refusalOfSet_41 ?_
      refine lv_iload_n (pc := 44) hx hb dX8_refusalOfSet_44 rfl (lv_at hl 2 rfl) ?_
      obtain ⟨r_1, hC1, hF⟩ := ob1_e hF
      refine zVr (pc := 45) (As := [.int p2]) (rest := []) E (tX6_hasItem l D cI cZ cM cS so sca sna sla sra sn sl sfin swk p2 hC1) 1 gX8_refusalOfSet_X6_hasItem rfl rfl rfl (by decide +kernel) ⟨Nat.le_of_ble_eq_true rfl, Nat.le_of_ble_eq_true rfl⟩ hK hP [1] rfl 0 6 rfl rfl rfl rfl hl.1 rfl (Nat.le_of_ble_eq_true rfl) dX8_refusalOfSet_45 ⟨Nat.zero_le _, Nat.zero_le _⟩ ?_
      refine lv_if_eq (pc := 48) (tgt := 55) hx hb dX8_refusalOfSet_48 (by decide) (fun hc => ?_) (fun hc => ?_)
      · have hF := oif_t hF hc
        refine lv_ldc (v := (-1000000001 : Int32)) (pc := 55) hx hb hown cn118 dX8_refusalOfSet_55 ?_
        cases hF
        exact hRet _ _ rfl dX8_refusalOfSet_57
      · have hF := oif_f hF hc
        refine lv_iconst (v := (-1 : Int32)) (pc := 51) hx hb dX8_refusalOfSet_51 (by decide) ?_
        refine lv_goto (pc := 52) (tgt := 57) hx hb dX8_refusalOfSet_52 (by decide) ?_
        cases hF
        exact hRet _ _ rfl dX8_refusalOfSet_57
    rcases hk10100 with hk | hk
    · rw [hk] at exs
      rw [exs]
      refine lv_tableIn (pc := 1) (tgt := 40) hx hb dX8_refusalOfSet_1 (by decide) (by decide) rfl (by decide) ?_
      exact hg
    · rw [hk] at exs
      rw [exs]
      refine lv_tableIn (pc := 1) (tgt := 40) hx hb dX8_refusalOfSet_1 (by decide) (by decide) rfl (by decide) ?_
      exact hg
  have hF := oif_f hF hk10100
  by_cases hk10101 : p1 = (2 : Int32)
  · have hF := oif_t hF hk10101
    rw [hk10101] at exs
    rw [exs]
    refine lv_tableIn (pc := 1) (tgt := 58) hx hb dX8_refusalOfSet_1 (by decide) (by decide) rfl (by decide) ?_
    refine lv_iload_n (pc := 58) hx hb dX8_refusalOfSet_58 rfl (lv_at hl 2 rfl) ?_
    refine lv_if_lt (pc := 59) (tgt := 72) hx hb dX8_refusalOfSet_59 (by decide) (fun hc => ?_) (fun hc => ?_)
    · have hF := oif_t hF hc
      refine lv_ldc (v := (-1000000001 : Int32)) (pc := 72) hx hb hown cn118 dX8_refusalOfSet_72 ?_
      cases hF
      exact hRet _ _ rfl dX8_refusalOfSet_74
    · have hF := oif_f hF hc
      refine lv_iload_n (pc := 62) hx hb dX8_refusalOfSet_62 rfl (lv_at hl 2 rfl) ?_
      refine lv_bipush (v := (8 : Int32)) (pc := 63) hx hb dX8_refusalOfSet_63 (by decide) ?_
      refine lv_icmp_ge (pc := 65) (tgt := 72) hx hb dX8_refusalOfSet_65 (by decide) (fun hc => ?_) (fun hc => ?_)
      · have hF := oif_t hF hc
        refine lv_ldc (v := (-1000000001 : Int32)) (pc := 72) hx hb hown cn118 dX8_refusalOfSet_72 ?_
        cases hF
        exact hRet _ _ rfl dX8_refusalOfSet_74
      · have hF := oif_f hF hc
        refine lv_iconst (v := (-1 : Int32)) (pc := 68) hx hb dX8_refusalOfSet_68 (by decide) ?_
        refine lv_goto (pc := 69) (tgt := 74) hx hb dX8_refusalOfSet_69 (by decide) ?_
        cases hF
        exact hRet _ _ rfl dX8_refusalOfSet_74
  have hF := oif_f hF hk10101
  by_cases hk10102 : p1 = (3 : Int32)
  · have hF := oif_t hF hk10102
    rw [hk10102] at exs
    rw [exs]
    refine lv_tableIn (pc := 1) (tgt := 75) hx hb dX8_refusalOfSet_1 (by decide) (by decide) rfl (by decide) ?_
    refine lv_aload_n (pc := 75) hx hb dX8_refusalOfSet_75 rfl (lv_at hl 0 rfl) ?_
    refine va_get (pc := 76) (ci := 8) (C := RX8) (T := TX8) (N := 8) hx hb hts inX8 hown hK hP 0 rfl rfl 0 (by decide) fl10 (fun _ h9 => h9) rfl dX8_refusalOfSet_76 ?_
    refine lv_iload_n (pc := 79) hx hb dX8_refusalOfSet_79 rfl (lv_at hl 2 rfl) ?_
    obtain ⟨r_2, hC2, hF⟩ := ob1_e hF
    refine zVr (pc := 80) (As := [.int p2]) (rest := []) E (tX6_hasLetter l D cI cZ cM cS so sca sna sla sra sn sl sfin swk p2 hC2) 1 gX8_refusalOfSet_X6_hasLetter rfl rfl rfl (by decide +kernel) ⟨Nat.le_of_ble_eq_true rfl, Nat.le_of_ble_eq_true rfl⟩ hK hP [1] rfl 0 6 rfl rfl rfl rfl hl.1 rfl (Nat.le_of_ble_eq_true rfl) dX8_refusalOfSet_80 ⟨Nat.zero_le _, Nat.zero_le _⟩ ?_
    refine lv_if_eq (pc := 83) (tgt := 104) hx hb dX8_refusalOfSet_83 (by decide) (fun hc => ?_) (fun hc => ?_)
    · have hF := oif_t hF hc
      refine lv_ldc (v := (-1000000001 : Int32)) (pc := 104) hx hb hown cn118 dX8_refusalOfSet_104 ?_
      cases hF
      exact hRet _ _ rfl dX8_refusalOfSet_106
    · have hF := oif_f hF hc
      refine lv_aload_n (pc := 86) hx hb dX8_refusalOfSet_86 rfl (lv_at hl 0 rfl) ?_
      refine va_get (pc := 87) (ci := 8) (C := RX8) (T := TX8) (N := 8) hx hb hts inX8 hown hK hP 0 rfl rfl 0 (by decide) fl10 (fun _ h9 => h9) rfl dX8_refusalOfSet_87 ?_
      refine va_get (pc := 90) (ci := 6) (C := RX6) (T := TX6) (N := 8) hx hb hts inX6 hown hK hP 1 rfl rfl 7 (by decide) fl69 (fun _ h9 => h9) rfl dX8_refusalOfSet_90 ?_
      refine lv_iload_n (pc := 93) hx hb dX8_refusalOfSet_93 rfl (lv_at hl 3 rfl) ?_
      obtain ⟨r_3, hC3, hF⟩ := ob1_e hF
      refine zVr (pc := 94) (As := [.int p3]) (rest := []) E (tX5_hasPlace l D cI cZ cM cS sra qs qc qf p3 hC3) 1 gX8_refusalOfSet_X5_hasPlace rfl rfl rfl (by decide +kernel) ⟨Nat.le_of_ble_eq_true rfl, Nat.le_of_ble_eq_true rfl⟩ hK hP [2, 3] rfl 0 5 rfl rfl rfl rfl hl.1 rfl (Nat.le_of_ble_eq_true rfl) dX8_refusalOfSet_94 ⟨Nat.zero_le _, Nat.zero_le _⟩ ?_
      refine lv_if_eq (pc := 97) (tgt := 104) hx hb dX8_refusalOfSet_97 (by decide) (fun hc => ?_) (fun hc => ?_)
      · have hF := oif_t hF hc
        refine lv_ldc (v := (-1000000001 : Int32)) (pc := 104) hx hb hown cn118 dX8_refusalOfSet_104 ?_
        cases hF
        exact hRet _ _ rfl dX8_refusalOfSet_106
      · have hF := oif_f hF hc
        refine lv_iconst (v := (-1 : Int32)) (pc := 100) hx hb dX8_refusalOfSet_100 (by decide) ?_
        refine lv_goto (pc := 101) (tgt := 106) hx hb dX8_refusalOfSet_101 (by decide) ?_
        cases hF
        exact hRet _ _ rfl dX8_refusalOfSet_106
  have hF := oif_f hF hk10102
  by_cases hk10103 : p1 = (4 : Int32)
  · have hF := oif_t hF hk10103
    rw [hk10103] at exs
    rw [exs]
    refine lv_tableIn (pc := 1) (tgt := 107) hx hb dX8_refusalOfSet_1 (by decide) (by decide) rfl (by decide) ?_
    refine lv_iconst (v := (-1 : Int32)) (pc := 107) hx hb dX8_refusalOfSet_107 (by decide) ?_
    cases hF
    exact hRet _ _ rfl dX8_refusalOfSet_108
  have hF := oif_f hF hk10103
  by_cases hk10104 : p1 = (5 : Int32)
  · have hF := oif_t hF hk10104
    rw [hk10104] at exs
    rw [exs]
    refine lv_tableIn (pc := 1) (tgt := 109) hx hb dX8_refusalOfSet_1 (by decide) (by decide) rfl (by decide) ?_
    refine lv_aload_n (pc := 109) hx hb dX8_refusalOfSet_109 rfl (lv_at hl 0 rfl) ?_
    refine va_get (pc := 110) (ci := 8) (C := RX8) (T := TX8) (N := 8) hx hb hts inX8 hown hK hP 0 rfl rfl 0 (by decide) fl10 (fun _ h9 => h9) rfl dX8_refusalOfSet_110 ?_
    refine va_get (pc := 113) (ci := 6) (C := RX6) (T := TX6) (N := 8) hx hb hts inX6 hown hK hP 1 rfl rfl 7 (by decide) fl69 (fun _ h9 => h9) rfl dX8_refusalOfSet_113 ?_
    refine lv_iload_n (pc := 116) hx hb dX8_refusalOfSet_116 rfl (lv_at hl 2 rfl) ?_
    obtain ⟨r_4, hC4, hF⟩ := ob1_e hF
    refine zVr (pc := 117) (As := [.int p2]) (rest := []) E (tX5_hasPlace l D cI cZ cM cS sra qs qc qf p2 hC4) 1 gX8_refusalOfSet_X5_hasPlace rfl rfl rfl (by decide +kernel) ⟨Nat.le_of_ble_eq_true rfl, Nat.le_of_ble_eq_true rfl⟩ hK hP [2, 3] rfl 0 5 rfl rfl rfl rfl hl.1 rfl (Nat.le_of_ble_eq_true rfl) dX8_refusalOfSet_117 ⟨Nat.zero_le _, Nat.zero_le _⟩ ?_
    refine lv_if_ne (pc := 120) (tgt := 126) hx hb dX8_refusalOfSet_120 (by decide) (fun hc => ?_) (fun hc => ?_)
    · have hF := oif_f hF hc
      refine lv_iload_n (pc := 126) hx hb dX8_refusalOfSet_126 rfl (lv_at hl 3 rfl) ?_
      refine lv_if_lt (pc := 127) (tgt := 140) hx hb dX8_refusalOfSet_127 (by decide) (fun hc => ?_) (fun hc => ?_)
      · have hF := oif_t hF hc
        refine lv_ldc (v := (-1000000002 : Int32)) (pc := 140) hx hb hown cn113 dX8_refusalOfSet_140 ?_
        cases hF
        exact hRet _ _ rfl dX8_refusalOfSet_142
      · have hF := oif_f hF hc
        refine lv_iload_n (pc := 130) hx hb dX8_refusalOfSet_130 rfl (lv_at hl 3 rfl) ?_
        refine lv_bipush (v := (12 : Int32)) (pc := 131) hx hb dX8_refusalOfSet_131 (by decide) ?_
        refine lv_icmp_gt (pc := 133) (tgt := 140) hx hb dX8_refusalOfSet_133 (by decide) (fun hc => ?_) (fun hc => ?_)
        · have hF := oif_t hF hc
          refine lv_ldc (v := (-1000000002 : Int32)) (pc := 140) hx hb hown cn113 dX8_refusalOfSet_140 ?_
          cases hF
          exact hRet _ _ rfl dX8_refusalOfSet_142
        · have hF := oif_f hF hc
          refine lv_iconst (v := (-1 : Int32)) (pc := 136) hx hb dX8_refusalOfSet_136 (by decide) ?_
          refine lv_goto (pc := 137) (tgt := 142) hx hb dX8_refusalOfSet_137 (by decide) ?_
          cases hF
          exact hRet _ _ rfl dX8_refusalOfSet_142
    · have hF := oif_t hF hc
      refine lv_ldc (v := (-1000000001 : Int32)) (pc := 123) hx hb hown cn118 dX8_refusalOfSet_123 ?_
      cases hF
      exact hRet _ _ rfl dX8_refusalOfSet_125
  have hF := oif_f hF hk10104
  rw [exs]
  refine lv_tableOut (pc := 1) (tgt := 143) hx hb dX8_refusalOfSet_1 (ztabO 6 [0, 1, 2, 3, 4, 5] (by decide) (by decide) (zallC (fun q => hk10100 (.inl q)) (zallC (fun q => hk10100 (.inr (q))) (zallC hk10101 (zallC hk10102 (zallC hk10103 (zallC hk10104 zallN))))))) (by decide) ?_
  refine lv_ldc (v := (-1000000002 : Int32)) (pc := 143) hx hb hown cn113 dX8_refusalOfSet_143 ?_
  cases hF
  exact hRet _ _ rfl dX8_refusalOfSet_145
def fX8_refineAside (p1 : Int32) (sn : Int32) (sl : Int32) (sfin : Int32) (swk : Int32) (scols : (Nat → Int32)) (snear : (Nat → Int32)) (slds : (Nat → Int32)) (bc : Int32) (bf : (Nat → Int32)) (zc : Int32) (zf : (Nat → Int32)) : Option (Int32 × (Nat → Int32) × Int32 × (Nat → Int32)) := (ob1 (fX6_all sn sl sfin swk) (fun r_1 => (ob2 (fX5_gather r_1 zc zf) (fun zc_1 zf_1 => (ob4 (fX4_refineRow p1 bc bf sn sl sfin swk scols snear slds zc_1 zf_1) (fun bc_1 bf_1 zc_2 zf_2 => (some (bc_1, bf_1, zc_2, zf_2))))))))
abbrev wX8_refineAside (cI cZ cM cS : ClassId) (xo so ho ko ia fo wo zo dr sca sna sla sra bo bs zs : Nat) (sn : Int32) (sl : Int32) (sfin : Int32) (swk : Int32) (scols : (Nat → Int32)) (snear : (Nat → Int32)) (slds : (Nat → Int32)) (bc : Int32) (bf : (Nat → Int32)) (zc : Int32) (zf : (Nat → Int32)) : va_W := [(xo, .inr (8, [.ref so, .ref ho, .ref ko, .ref ia, .ref fo, .ref wo, .ref zo, .ref dr])), (so, .inr (6, [.int sn, .int sl, .int sfin, .int swk, .ref sca, .ref sna, .ref sla, .ref sra])), (sca, .inl (cI, 12, .inl scols)), (sna, .inl (cI, 12, .inl snear)), (sla, .inl (cI, 36, .inl slds)), (fo, .inr (4, [.ref bo])), (bo, .inr (5, [.ref bs, .int bc])), (bs, .inl (cI, 12, .inl bf)), (zo, .inr (5, [.ref zs, .int zc])), (zs, .inl (cI, 12, .inl zf))]
set_option maxHeartbeats 4000000 in
set_option maxRecDepth 100000 in
theorem tX8_refineAside (l : Launch) (D : va_G) (cI cZ cM cS : ClassId) (xo so ho ko ia fo wo zo dr sca sna sla sra bo bs zs : Nat) (sn : Int32) (sl : Int32) (sfin : Int32) (swk : Int32) (scols : (Nat → Int32)) (snear : (Nat → Int32)) (slds : (Nat → Int32)) (bc : Int32) (bf : (Nat → Int32)) (zc : Int32) (zf : (Nat → Int32)) (p1 : Int32) {bc' : Int32} {bf' : (Nat → Int32)} {zc' : Int32} {zf' : (Nat → Int32)} (hF : fX8_refineAside p1 sn sl sfin swk scols snear slds bc bf zc zf = some (bc', bf', zc', zf')) : zCW l yX8_refineAside wsX8_refineAside (zRm 6 139) D (zTy cI cZ cM cS) [.ref xo, .int p1] (wX8_refineAside cI cZ cM cS xo so ho ko ia fo wo zo dr sca sna sla sra bo bs zs sn sl sfin swk scols snear slds bc bf zc zf) (wX8_refineAside cI cZ cM cS xo so ho ko ia fo wo zo dr sca sna sla sra bo bs zs sn sl sfin swk scols snear slds bc' bf' zc' zf') none := by
  unfold fX8_refineAside at hF
  refine zCW_ofv (cc := cX8_refineAside) (maxL := 2) (own := RX8) (by decide) rfl rfl (Nat.le_of_ble_eq_true rfl) (fun p e s m args below meth c Q ls A E hA hK hP hD hRet hS hl => ?_)
  refine zgen (fun H locs hP hS => ?_) hP hS
  have hl : lv_has ls 2 [(0, .ref xo), (1, .int p1)] := hl
  obtain ⟨hx, hb, hml, hown, hts⟩ := id E
  have inX8 : ∀ w ∈ u_ws RX8 TX8 8, w ∈ wsX8_refineAside := by decide +kernel
  have fl10 := hts (.fieldLink RX8 10 "SplitClasses" "now" "LSplitClasses$State;") (by decide +kernel)
  have fl40 := hts (.fieldLink RX8 40 "SplitClasses" "refiner" "LSplitClasses$Refiner;") (by decide +kernel)
  have fl54 := hts (.fieldLink RX8 54 "SplitClasses" "aside" "LSplitClasses$Row;") (by decide +kernel)
  refine lv_aload_n (pc := 0) hx hb dX8_refineAside_0 rfl (lv_at hl 0 rfl) ?_
  refine va_get (pc := 1) (ci := 8) (C := RX8) (T := TX8) (N := 8) hx hb hts inX8 hown hK hP 0 rfl rfl 6 (by decide) fl54 (fun _ h9 => h9) rfl dX8_refineAside_1 ?_
  refine lv_aload_n (pc := 4) hx hb dX8_refineAside_4 rfl (lv_at hl 0 rfl) ?_
  refine va_get (pc := 5) (ci := 8) (C := RX8) (T := TX8) (N := 8) hx hb hts inX8 hown hK hP 0 rfl rfl 0 (by decide) fl10 (fun _ h9 => h9) rfl dX8_refineAside_5 ?_
  obtain ⟨r_1, hC1, hF⟩ := ob1_e hF
  refine zVr (pc := 8) (As := []) (rest := [.ref zo]) E (tX6_all l D cI cZ cM cS so sca sna sla sra sn sl sfin swk hC1) 0 gX8_refineAside_X6_all rfl rfl rfl (by decide +kernel) ⟨Nat.le_of_ble_eq_true rfl, Nat.le_of_ble_eq_true rfl⟩ hK hP [1] rfl 0 6 rfl rfl rfl rfl hl.1 rfl (Nat.le_of_ble_eq_true rfl) dX8_refineAside_8 ⟨Nat.zero_le _, Nat.zero_le _⟩ ?_
  obtain ⟨zc_1, zf_1, hC2, hF⟩ := ob2_e hF
  refine zV (pc := 11) (As := [.int r_1]) (rest := []) (wr := [(xo, .inr (8, [.ref so, .ref ho, .ref ko, .ref ia, .ref fo, .ref wo, .ref zo, .ref dr])), (so, .inr (6, [.int sn, .int sl, .int sfin, .int swk, .ref sca, .ref sna, .ref sla, .ref sra])), (sca, .inl (cI, 12, .inl scols)), (sna, .inl (cI, 12, .inl snear)), (sla, .inl (cI, 36, .inl slds)), (fo, .inr (4, [.ref bo])), (bo, .inr (5, [.ref bs, .int bc])), (bs, .inl (cI, 12, .inl bf))]) (w2 := (wX8_refineAside cI cZ cM cS xo so ho ko ia fo wo zo dr sca sna sla sra bo bs zs sn sl sfin swk scols snear slds bc bf zc_1 zf_1)) E (tX5_gather l D cI cZ cM cS zo zs zc zf r_1 hC2) 1 gX8_refineAside_X5_gather rfl rfl rfl (by decide +kernel) ⟨Nat.le_of_ble_eq_true rfl, Nat.le_of_ble_eq_true rfl⟩ hK hP hD hS hA [8, 9] [0, 1, 2, 3, 4, 5, 6, 7] [0, 1, 2, 3, 4, 5, 6, 7, 8, 9] (by decide) rfl rfl (by decide) (by decide) rfl (by decide) 0 5 rfl rfl rfl rfl hl.1 rfl (Nat.le_of_ble_eq_true rfl) dX8_refineAside_11 ⟨Nat.zero_le _, Nat.zero_le _⟩ (fun H locs hP hD hS => ?_)
  refine W.eq (g2 := F0 m 14 ls []) rfl ?_
  refine lv_aload_n (pc := 14) hx hb dX8_refineAside_14 rfl (lv_at hl 0 rfl) ?_
  refine va_get (pc := 15) (ci := 8) (C := RX8) (T := TX8) (N := 8) hx hb hts inX8 hown hK hP 0 rfl rfl 4 (by decide) fl40 (fun _ h9 => h9) rfl dX8_refineAside_15 ?_
  refine lv_aload_n (pc := 18) hx hb dX8_refineAside_18 rfl (lv_at hl 0 rfl) ?_
  refine va_get (pc := 19) (ci := 8) (C := RX8) (T := TX8) (N := 8) hx hb hts inX8 hown hK hP 0 rfl rfl 0 (by decide) fl10 (fun _ h9 => h9) rfl dX8_refineAside_19 ?_
  refine lv_aload_n (pc := 22) hx hb dX8_refineAside_22 rfl (lv_at hl 0 rfl) ?_
  refine va_get (pc := 23) (ci := 8) (C := RX8) (T := TX8) (N := 8) hx hb hts inX8 hown hK hP 0 rfl rfl 6 (by decide) fl54 (fun _ h9 => h9) rfl dX8_refineAside_23 ?_
  refine lv_iload_n (pc := 26) hx hb dX8_refineAside_26 rfl (lv_at hl 1 rfl) ?_
  obtain ⟨bc_1, bf_1, zc_2, zf_2, hC3, hF⟩ := ob4_e hF
  refine zV (pc := 27) (As := [.ref so, .ref zo, .int p1]) (rest := []) (wr := [(xo, .inr (8, [.ref so, .ref ho, .ref ko, .ref ia, .ref fo, .ref wo, .ref zo, .ref dr]))]) (w2 := (wX8_refineAside cI cZ cM cS xo so ho ko ia fo wo zo dr sca sna sla sra bo bs zs sn sl sfin swk scols snear slds bc_1 bf_1 zc_2 zf_2)) E (tX4_refineRow l D cI cZ cM cS fo bo bs so sca sna sla sra zo zs bc bf sn sl sfin swk scols snear slds zc_1 zf_1 p1 hC3) 3 gX8_refineAside_X4_refineRow rfl rfl rfl (by decide +kernel) ⟨Nat.le_of_ble_eq_true rfl, Nat.le_of_ble_eq_true rfl⟩ hK hP hD hS hA [5, 6, 7, 1, 2, 3, 4, 8, 9] [0] [0, 4, 5, 6, 7, 1, 2, 3, 8, 9] (by decide) rfl rfl (by decide) (by decide) rfl (by decide) 0 4 rfl rfl rfl rfl hl.1 rfl (Nat.le_of_ble_eq_true rfl) dX8_refineAside_27 ⟨Nat.zero_le _, Nat.zero_le _⟩ (fun H locs hP hD hS => ?_)
  refine W.eq (g2 := F0 m 30 ls []) rfl ?_
  cases hF
  exact hRet _ _ _ _ dX8_refineAside_30 hP hD hS
def fX8_told (p1 : Int32) (sn : Int32) (sl : Int32) (sfin : Int32) (swk : Int32) (scols : (Nat → Int32)) (snear : (Nat → Int32)) (slds : (Nat → Int32)) (qc : Int32) (qf : (Nat → Int32)) (hnx : Int32) (hct : Int32) (kn : Int32) (kits : (Nat → Int32)) (kcls : (Nat → Int32)) (bc : Int32) (bf : (Nat → Int32)) (ord : (Nat → Int32)) (earl : (Nat → Int32)) (kc : Int32) (kf : (Nat → Int32)) (zc : Int32) (zf : (Nat → Int32)) (dst : Int32) : Option (Int32 × Int32 × (Nat → Int32) × (Nat → Int32) × (Nat → Int32) × Int32 × (Nat → Int32) × Int32 × (Nat → Int32)) := (if p1 = (0 : Int32) then (some (sn, bc, bf, ord, earl, kc, kf, zc, zf)) else (if p1 = (1 : Int32) then (some (qc, bc, bf, ord, earl, kc, kf, zc, zf)) else (if p1 = (2 : Int32) then (some (swk, bc, bf, ord, earl, kc, kf, zc, zf)) else (if p1 = (3 : Int32) then (ob1 (fX6_edgeCount sn sl sfin swk snear) (fun r_1 => (some (r_1, bc, bf, ord, earl, kc, kf, zc, zf)))) else (if p1 = (4 : Int32) then (some (sl, bc, bf, ord, earl, kc, kf, zc, zf)) else (if p1 = (5 : Int32) then (some (sfin, bc, bf, ord, earl, kc, kf, zc, zf)) else (if p1 = (6 : Int32) ∨ p1 = (7 : Int32) ∨ p1 = (8 : Int32) ∨ p1 = (9 : Int32) ∨ p1 = (10 : Int32) then (ob4 (fX8_refineAside (p1 - (6 : Int32)) sn sl sfin swk scols snear slds bc bf zc zf) (fun bc_1 bf_1 zc_1 zf_1 => (some (zc_1, bc_1, bf_1, ord, earl, kc, kf, zc_1, zf_1)))) else (if p1 = (11 : Int32) then (ob4 (fX7_walkFrom (0 : Int32) ord earl kc kf sn sl sfin swk snear) (fun ord_1 earl_1 kc_1 kf_1 => (ob1 (fX7_fault ord_1 earl_1 sn sl sfin swk snear) (fun r_2 => (some (r_2, bc, bf, ord_1, earl_1, kc_1, kf_1, zc, zf)))))) else (if p1 = (12 : Int32) then (ob4 (fX7_walkFrom (0 : Int32) ord earl kc kf sn sl sfin swk snear) (fun ord_2 earl_2 kc_2 kf_2 => (ob1 (fX7_fault ord_2 earl_2 sn sl sfin swk snear) (fun r_3 => (if r_3 = (-1 : Int32) then (ob1 (fX7_clique ord_2 earl_2 sn sl sfin swk snear) (fun r_4 => (some (r_4, bc, bf, ord_2, earl_2, kc_2, kf_2, zc, zf)))) else (some ((-1 : Int32), bc, bf, ord_2, earl_2, kc_2, kf_2, zc, zf))))))) else (if p1 = (13 : Int32) then (some (kn, bc, bf, ord, earl, kc, kf, zc, zf)) else (if p1 = (14 : Int32) then (ob1 (fX0_firstWrong kn kits kcls sn sl sfin swk qc qf) (fun r_5 => (some (r_5, bc, bf, ord, earl, kc, kf, zc, zf)))) else (if p1 = (15 : Int32) then (some (hct, bc, bf, ord, earl, kc, kf, zc, zf)) else (if p1 = (16 : Int32) then (some (dst, bc, bf, ord, earl, kc, kf, zc, zf)) else (some ((-1000000002 : Int32), bc, bf, ord, earl, kc, kf, zc, zf)))))))))))))))
abbrev wX8_told (cI cZ cM cS : ClassId) (xo so ho ko ia fo wo zo dr sca sna sla sra qs rr ki kk bo bs wd wr we ks zs : Nat) (sn : Int32) (sl : Int32) (sfin : Int32) (swk : Int32) (scols : (Nat → Int32)) (snear : (Nat → Int32)) (slds : (Nat → Int32)) (qc : Int32) (qf : (Nat → Int32)) (hnx : Int32) (hct : Int32) (kn : Int32) (kits : (Nat → Int32)) (kcls : (Nat → Int32)) (bc : Int32) (bf : (Nat → Int32)) (ord : (Nat → Int32)) (earl : (Nat → Int32)) (kc : Int32) (kf : (Nat → Int32)) (zc : Int32) (zf : (Nat → Int32)) (dst : Int32) : va_W := [(xo, .inr (8, [.ref so, .ref ho, .ref ko, .ref ia, .ref fo, .ref wo, .ref zo, .ref dr])), (so, .inr (6, [.int sn, .int sl, .int sfin, .int swk, .ref sca, .ref sna, .ref sla, .ref sra])), (sca, .inl (cI, 12, .inl scols)), (sna, .inl (cI, 12, .inl snear)), (sla, .inl (cI, 36, .inl slds)), (sra, .inr (5, [.ref qs, .int qc])), (qs, .inl (cI, 12, .inl qf)), (ho, .inr (2, [.ref rr, .int hnx, .int hct])), (ko, .inr (0, [.ref ki, .ref kk, .int kn])), (ki, .inl (cI, 20, .inl kits)), (kk, .inl (cI, 20, .inl kcls)), (fo, .inr (4, [.ref bo])), (bo, .inr (5, [.ref bs, .int bc])), (bs, .inl (cI, 12, .inl bf)), (wo, .inr (7, [.ref wd, .ref wr, .ref we])), (wd, .inl (cI, 12, .inl ord)), (we, .inl (cI, 12, .inl earl)), (wr, .inr (5, [.ref ks, .int kc])), (ks, .inl (cI, 12, .inl kf)), (zo, .inr (5, [.ref zs, .int zc])), (zs, .inl (cI, 12, .inl zf)), (dr, .inr (1, [.int dst]))]
set_option maxHeartbeats 4000000 in
set_option maxRecDepth 100000 in
theorem tX8_told (l : Launch) (D : va_G) (cI cZ cM cS : ClassId) (xo so ho ko ia fo wo zo dr sca sna sla sra qs rr ki kk bo bs wd wr we ks zs : Nat) (sn : Int32) (sl : Int32) (sfin : Int32) (swk : Int32) (scols : (Nat → Int32)) (snear : (Nat → Int32)) (slds : (Nat → Int32)) (qc : Int32) (qf : (Nat → Int32)) (hnx : Int32) (hct : Int32) (kn : Int32) (kits : (Nat → Int32)) (kcls : (Nat → Int32)) (bc : Int32) (bf : (Nat → Int32)) (ord : (Nat → Int32)) (earl : (Nat → Int32)) (kc : Int32) (kf : (Nat → Int32)) (zc : Int32) (zf : (Nat → Int32)) (dst : Int32) (p1 : Int32) {r : Int32} {bc' : Int32} {bf' : (Nat → Int32)} {ord' : (Nat → Int32)} {earl' : (Nat → Int32)} {kc' : Int32} {kf' : (Nat → Int32)} {zc' : Int32} {zf' : (Nat → Int32)} (hF : fX8_told p1 sn sl sfin swk scols snear slds qc qf hnx hct kn kits kcls bc bf ord earl kc kf zc zf dst = some (r, bc', bf', ord', earl', kc', kf', zc', zf')) : zCW l yX8_told wsX8_told (zRm 7 160) D (zTy cI cZ cM cS) [.ref xo, .int p1] (wX8_told cI cZ cM cS xo so ho ko ia fo wo zo dr sca sna sla sra qs rr ki kk bo bs wd wr we ks zs sn sl sfin swk scols snear slds qc qf hnx hct kn kits kcls bc bf ord earl kc kf zc zf dst) (wX8_told cI cZ cM cS xo so ho ko ia fo wo zo dr sca sna sla sra qs rr ki kk bo bs wd wr we ks zs sn sl sfin swk scols snear slds qc qf hnx hct kn kits kcls bc' bf' ord' earl' kc' kf' zc' zf' dst) (some (.int r)) := by
  unfold fX8_told at hF
  refine zCW_ofi (cc := cX8_told) (maxL := 2) (own := RX8) (by decide) rfl rfl (Nat.le_of_ble_eq_true rfl) (fun p e s m args below meth c Q ls A E hA hK hP hD hRet hS hl => ?_)
  refine zgen (fun H locs hP hS => ?_) hP hS
  have hl : lv_has ls 2 [(0, .ref xo), (1, .int p1)] := hl
  obtain ⟨hx, hb, hml, hown, hts⟩ := id E
  have inX0 : ∀ w ∈ u_ws RX0 TX0 3, w ∈ wsX8_told := by decide +kernel
  have inX1 : ∀ w ∈ u_ws RX1 TX1 1, w ∈ wsX8_told := by decide +kernel
  have inX2 : ∀ w ∈ u_ws RX2 TX2 3, w ∈ wsX8_told := by decide +kernel
  have inX5 : ∀ w ∈ u_ws RX5 TX5 2, w ∈ wsX8_told := by decide +kernel
  have inX6 : ∀ w ∈ u_ws RX6 TX6 8, w ∈ wsX8_told := by decide +kernel
  have inX8 : ∀ w ∈ u_ws RX8 TX8 8, w ∈ wsX8_told := by decide +kernel
  have fl10 := hts (.fieldLink RX8 10 "SplitClasses" "now" "LSplitClasses$State;") (by decide +kernel)
  have fl103 := hts (.fieldLink RX8 103 "SplitClasses$Book" "size" "I") (by decide +kernel)
  have fl109 := hts (.fieldLink RX8 109 "SplitClasses$History" "count" "I") (by decide +kernel)
  have fl110 := hts (.fieldLink RX8 110 "SplitClasses$Draws" "state" "I") (by decide +kernel)
  have fl19 := hts (.fieldLink RX8 19 "SplitClasses" "history" "LSplitClasses$History;") (by decide +kernel)
  have fl26 := hts (.fieldLink RX8 26 "SplitClasses" "book" "LSplitClasses$Book;") (by decide +kernel)
  have fl47 := hts (.fieldLink RX8 47 "SplitClasses" "walk" "LSplitClasses$Walk;") (by decide +kernel)
  have fl54 := hts (.fieldLink RX8 54 "SplitClasses" "aside" "LSplitClasses$Row;") (by decide +kernel)
  have fl61 := hts (.fieldLink RX8 61 "SplitClasses" "draws" "LSplitClasses$Draws;") (by decide +kernel)
  have fl65 := hts (.fieldLink RX8 65 "SplitClasses$State" "n" "I") (by decide +kernel)
  have fl69 := hts (.fieldLink RX8 69 "SplitClasses$State" "row" "LSplitClasses$Row;") (by decide +kernel)
  have fl72 := hts (.fieldLink RX8 72 "SplitClasses$Row" "count" "I") (by decide +kernel)
  have fl75 := hts (.fieldLink RX8 75 "SplitClasses$State" "work" "I") (by decide +kernel)
  have fl82 := hts (.fieldLink RX8 82 "SplitClasses$State" "letterCount" "I") (by decide +kernel)
  have fl85 := hts (.fieldLink RX8 85 "SplitClasses$State" "finalSet" "I") (by decide +kernel)
  have cn113 := hts (.constant RX8 113 (-1000000002)) (by decide +kernel)
  refine lv_iload_n (pc := 0) hx hb dX8_told_0 rfl (lv_at hl 1 rfl) ?_
  refine lv_topi (fun xs exs => ?_)
  by_cases hk10100 : p1 = (0 : Int32)
  · have hF := oif_t hF hk10100
    rw [hk10100] at exs
    rw [exs]
    refine lv_tableIn (pc := 1) (tgt := 84) hx hb dX8_told_1 (by decide) (by decide) rfl (by decide) ?_
    refine lv_aload_n (pc := 84) hx hb dX8_told_84 rfl (lv_at hl 0 rfl) ?_
    refine va_get (pc := 85) (ci := 8) (C := RX8) (T := TX8) (N := 8) hx hb hts inX8 hown hK hP 0 rfl rfl 0 (by decide) fl10 (fun _ h9 => h9) rfl dX8_told_85 ?_
    refine va_get (pc := 88) (ci := 6) (C := RX6) (T := TX6) (N := 8) hx hb hts inX6 hown hK hP 1 rfl rfl 0 (by decide) fl65 (fun _ h9 => h9) rfl dX8_told_88 ?_
    cases hF
    exact hRet _ _ _ _ rfl dX8_told_91 hP hD hS
  have hF := oif_f hF hk10100
  by_cases hk10101 : p1 = (1 : Int32)
  · have hF := oif_t hF hk10101
    rw [hk10101] at exs
    rw [exs]
    refine lv_tableIn (pc := 1) (tgt := 92) hx hb dX8_told_1 (by decide) (by decide) rfl (by decide) ?_
    refine lv_aload_n (pc := 92) hx hb dX8_told_92 rfl (lv_at hl 0 rfl) ?_
    refine va_get (pc := 93) (ci := 8) (C := RX8) (T := TX8) (N := 8) hx hb hts inX8 hown hK hP 0 rfl rfl 0 (by decide) fl10 (fun _ h9 => h9) rfl dX8_told_93 ?_
    refine va_get (pc := 96) (ci := 6) (C := RX6) (T := TX6) (N := 8) hx hb hts inX6 hown hK hP 1 rfl rfl 7 (by decide) fl69 (fun _ h9 => h9) rfl dX8_told_96 ?_
    refine va_get (pc := 99) (ci := 5) (C := RX5) (T := TX5) (N := 2) hx hb hts inX5 hown hK hP 5 rfl rfl 1 (by decide) fl72 (fun _ h9 => h9) rfl dX8_told_99 ?_
    cases hF
    exact hRet _ _ _ _ rfl dX8_told_102 hP hD hS
  have hF := oif_f hF hk10101
  by_cases hk10102 : p1 = (2 : Int32)
  · have hF := oif_t hF hk10102
    rw [hk10102] at exs
    rw [exs]
    refine lv_tableIn (pc := 1) (tgt := 103) hx hb dX8_told_1 (by decide) (by decide) rfl (by decide) ?_
    refine lv_aload_n (pc := 103) hx hb dX8_told_103 rfl (lv_at hl 0 rfl) ?_
    refine va_get (pc := 104) (ci := 8) (C := RX8) (T := TX8) (N := 8) hx hb hts inX8 hown hK hP 0 rfl rfl 0 (by decide) fl10 (fun _ h9 => h9) rfl dX8_told_104 ?_
    refine va_get (pc := 107) (ci := 6) (C := RX6) (T := TX6) (N := 8) hx hb hts inX6 hown hK hP 1 rfl rfl 3 (by decide) fl75 (fun _ h9 => h9) rfl dX8_told_107 ?_
    cases hF
    exact hRet _ _ _ _ rfl dX8_told_110 hP hD hS
  have hF := oif_f hF hk10102
  by_cases hk10103 : p1 = (3 : Int32)
  · have hF := oif_t hF hk10103
    rw [hk10103] at exs
    rw [exs]
    refine lv_tableIn (pc := 1) (tgt := 111) hx hb dX8_told_1 (by decide) (by decide) rfl (by decide) ?_
    refine lv_aload_n (pc := 111) hx hb dX8_told_111 rfl (lv_at hl 0 rfl) ?_
    refine va_get (pc := 112) (ci := 8) (C := RX8) (T := TX8) (N := 8) hx hb hts inX8 hown hK hP 0 rfl rfl 0 (by decide) fl10 (fun _ h9 => h9) rfl dX8_told_112 ?_
    obtain ⟨r_1, hC1, hF⟩ := ob1_e hF
    refine zVr (pc := 115) (As := []) (rest := []) E (tX6_edgeCount l D cI cZ cM cS so sca sna sla sra sn sl sfin swk snear hC1) 0 gX8_told_X6_edgeCount rfl rfl rfl (by decide +kernel) ⟨Nat.le_of_ble_eq_true rfl, Nat.le_of_ble_eq_true rfl⟩ hK hP [1, 3] rfl 0 6 rfl rfl rfl rfl hl.1 rfl (Nat.le_of_ble_eq_true rfl) dX8_told_115 ⟨Nat.zero_le _, Nat.zero_le _⟩ ?_
    cases hF
    exact hRet _ _ _ _ rfl dX8_told_118 hP hD hS
  have hF := oif_f hF hk10103
  by_cases hk10104 : p1 = (4 : Int32)
  · have hF := oif_t hF hk10104
    rw [hk10104] at exs
    rw [exs]
    refine lv_tableIn (pc := 1) (tgt := 119) hx hb dX8_told_1 (by decide) (by decide) rfl (by decide) ?_
    refine lv_aload_n (pc := 119) hx hb dX8_told_119 rfl (lv_at hl 0 rfl) ?_
    refine va_get (pc := 120) (ci := 8) (C := RX8) (T := TX8) (N := 8) hx hb hts inX8 hown hK hP 0 rfl rfl 0 (by decide) fl10 (fun _ h9 => h9) rfl dX8_told_120 ?_
    refine va_get (pc := 123) (ci := 6) (C := RX6) (T := TX6) (N := 8) hx hb hts inX6 hown hK hP 1 rfl rfl 1 (by decide) fl82 (fun _ h9 => h9) rfl dX8_told_123 ?_
    cases hF
    exact hRet _ _ _ _ rfl dX8_told_126 hP hD hS
  have hF := oif_f hF hk10104
  by_cases hk10105 : p1 = (5 : Int32)
  · have hF := oif_t hF hk10105
    rw [hk10105] at exs
    rw [exs]
    refine lv_tableIn (pc := 1) (tgt := 127) hx hb dX8_told_1 (by decide) (by decide) rfl (by decide) ?_
    refine lv_aload_n (pc := 127) hx hb dX8_told_127 rfl (lv_at hl 0 rfl) ?_
    refine va_get (pc := 128) (ci := 8) (C := RX8) (T := TX8) (N := 8) hx hb hts inX8 hown hK hP 0 rfl rfl 0 (by decide) fl10 (fun _ h9 => h9) rfl dX8_told_128 ?_
    refine va_get (pc := 131) (ci := 6) (C := RX6) (T := TX6) (N := 8) hx hb hts inX6 hown hK hP 1 rfl rfl 2 (by decide) fl85 (fun _ h9 => h9) rfl dX8_told_131 ?_
    cases hF
    exact hRet _ _ _ _ rfl dX8_told_134 hP hD hS
  have hF := oif_f hF hk10105
  by_cases hk10106 : p1 = (6 : Int32) ∨ p1 = (7 : Int32) ∨ p1 = (8 : Int32) ∨ p1 = (9 : Int32) ∨ p1 = (10 : Int32)
  · have hF := oif_t hF hk10106
    have hg : W p l e (zRm 7 160) s m args below meth c H locs 0 0 Q (F0 m 135 ls []) := by
      refine lv_aload_n (pc := 135) hx hb dX8_told_135 rfl (lv_at hl 0 rfl) ?_
      refine lv_iload_n (pc := 136) hx hb dX8_told_136 rfl (lv_at hl 1 rfl) ?_
      refine lv_bipush (v := (6 : Int32)) (pc := 137) hx hb dX8_told_137 (by decide) ?_
      refine lv_isub (pc := 139) hx hb dX8_told_139 ?_
      obtain ⟨bc_1, bf_1, zc_1, zf_1, hC2, hF⟩ := ob4_e hF
      refine zV (pc := 140) (As := [.int (p1 - (6 : Int32))]) (rest := []) (wr := [(sra, .inr (5, [.ref qs, .int qc])), (qs, .inl (cI, 12, .inl qf)), (ho, .inr (2, [.ref rr, .int hnx, .int hct])), (ko, .inr (0, [.ref ki, .ref kk, .int kn])), (ki, .inl (cI, 20, .inl kits)), (kk, .inl (cI, 20, .inl kcls)), (wo, .inr (7, [.ref wd, .ref wr, .ref we])), (wd, .inl (cI, 12, .inl ord)), (we, .inl (cI, 12, .inl earl)), (wr, .inr (5, [.ref ks, .int kc])), (ks, .inl (cI, 12, .inl kf)), (dr, .inr (1, [.int dst]))]) (w2 := (wX8_told cI cZ cM cS xo so ho ko ia fo wo zo dr sca sna sla sra qs rr ki kk bo bs wd wr we ks zs sn sl sfin swk scols snear slds qc qf hnx hct kn kits kcls bc_1 bf_1 ord earl kc kf zc_1 zf_1 dst)) E (tX8_refineAside l D cI cZ cM cS xo so ho ko ia fo wo zo dr sca sna sla sra bo bs zs sn sl sfin swk scols snear slds bc bf zc zf (p1 - (6 : Int32)) hC2) 1 gX8_told_X8_refineAside rfl rfl rfl (by decide +kernel) ⟨Nat.le_of_ble_eq_true rfl, Nat.le_of_ble_eq_true rfl⟩ hK hP hD hS hA [0, 1, 2, 3, 4, 11, 12, 13, 19, 20] [5, 6, 7, 8, 9, 10, 14, 15, 16, 17, 18, 21] [12, 13, 14, 15, 16, 0, 1, 2, 3, 4, 5, 17, 18, 19, 6, 7, 8, 9, 10, 20, 21, 11] (by decide) rfl rfl (by decide) (by decide) rfl (by decide) 0 8 rfl rfl rfl rfl hl.1 rfl (Nat.le_of_ble_eq_true rfl) dX8_told_140 ⟨Nat.zero_le _, Nat.zero_le _⟩ (fun H locs hP hD hS => ?_)
      refine W.eq (g2 := F0 m 143 ls []) rfl ?_
      refine lv_aload_n (pc := 143) hx hb dX8_told_143 rfl (lv_at hl 0 rfl) ?_
      refine va_get (pc := 144) (ci := 8) (C := RX8) (T := TX8) (N := 8) hx hb hts inX8 hown hK hP 0 rfl rfl 6 (by decide) fl54 (fun _ h9 => h9) rfl dX8_told_144 ?_
      refine va_get (pc := 147) (ci := 5) (C := RX5) (T := TX5) (N := 2) hx hb hts inX5 hown hK hP 19 rfl rfl 1 (by decide) fl72 (fun _ h9 => h9) rfl dX8_told_147 ?_
      cases hF
      exact hRet _ _ _ _ rfl dX8_told_150 hP hD hS
    rcases hk10106 with hk | hk | hk | hk | hk
    · rw [hk] at exs
      rw [exs]
      refine lv_tableIn (pc := 1) (tgt := 135) hx hb dX8_told_1 (by decide) (by decide) rfl (by decide) ?_
      exact hg
    · rw [hk] at exs
      rw [exs]
      refine lv_tableIn (pc := 1) (tgt := 135) hx hb dX8_told_1 (by decide) (by decide) rfl (by decide) ?_
      exact hg
    · rw [hk] at exs
      rw [exs]
      refine lv_tableIn (pc := 1) (tgt := 135) hx hb dX8_told_1 (by decide) (by decide) rfl (by decide) ?_
      exact hg
    · rw [hk] at exs
      rw [exs]
      refine lv_tableIn (pc := 1) (tgt := 135) hx hb dX8_told_1 (by decide) (by decide) rfl (by decide) ?_
      exact hg
    · rw [hk] at exs
      rw [exs]
      refine lv_tableIn (pc := 1) (tgt := 135) hx hb dX8_told_1 (by decide) (by decide) rfl (by decide) ?_
      exact hg
  have hF := oif_f hF hk10106
  by_cases hk10107 : p1 = (11 : Int32)
  · have hF := oif_t hF hk10107
    rw [hk10107] at exs
    rw [exs]
    refine lv_tableIn (pc := 1) (tgt := 151) hx hb dX8_told_1 (by decide) (by decide) rfl (by decide) ?_
    refine lv_aload_n (pc := 151) hx hb dX8_told_151 rfl (lv_at hl 0 rfl) ?_
    refine va_get (pc := 152) (ci := 8) (C := RX8) (T := TX8) (N := 8) hx hb hts inX8 hown hK hP 0 rfl rfl 5 (by decide) fl47 (fun _ h9 => h9) rfl dX8_told_152 ?_
    refine lv_aload_n (pc := 155) hx hb dX8_told_155 rfl (lv_at hl 0 rfl) ?_
    refine va_get (pc := 156) (ci := 8) (C := RX8) (T := TX8) (N := 8) hx hb hts inX8 hown hK hP 0 rfl rfl 0 (by decide) fl10 (fun _ h9 => h9) rfl dX8_told_156 ?_
    refine lv_iconst (v := (0 : Int32)) (pc := 159) hx hb dX8_told_159 (by decide) ?_
    obtain ⟨ord_1, earl_1, kc_1, kf_1, hC3, hF⟩ := ob4_e hF
    refine zV (pc := 160) (As := [.ref so, .int (0 : Int32)]) (rest := []) (wr := [(xo, .inr (8, [.ref so, .ref ho, .ref ko, .ref ia, .ref fo, .ref wo, .ref zo, .ref dr])), (sca, .inl (cI, 12, .inl scols)), (sla, .inl (cI, 36, .inl slds)), (sra, .inr (5, [.ref qs, .int qc])), (qs, .inl (cI, 12, .inl qf)), (ho, .inr (2, [.ref rr, .int hnx, .int hct])), (ko, .inr (0, [.ref ki, .ref kk, .int kn])), (ki, .inl (cI, 20, .inl kits)), (kk, .inl (cI, 20, .inl kcls)), (fo, .inr (4, [.ref bo])), (bo, .inr (5, [.ref bs, .int bc])), (bs, .inl (cI, 12, .inl bf)), (zo, .inr (5, [.ref zs, .int zc])), (zs, .inl (cI, 12, .inl zf)), (dr, .inr (1, [.int dst]))]) (w2 := (wX8_told cI cZ cM cS xo so ho ko ia fo wo zo dr sca sna sla sra qs rr ki kk bo bs wd wr we ks zs sn sl sfin swk scols snear slds qc qf hnx hct kn kits kcls bc bf ord_1 earl_1 kc_1 kf_1 zc zf dst)) E (tX7_walkFrom l D cI cZ cM cS wo wd wr we ks so sca sna sla sra ord earl kc kf sn sl sfin swk snear (0 : Int32) hC3) 2 gX8_told_X7_walkFrom rfl rfl rfl (by decide +kernel) ⟨Nat.le_of_ble_eq_true rfl, Nat.le_of_ble_eq_true rfl⟩ hK hP hD hS hA [14, 15, 16, 17, 18, 1, 3] [0, 2, 4, 5, 6, 7, 8, 9, 10, 11, 12, 13, 19, 20, 21] [0, 20, 1, 21, 2, 3, 4, 5, 6, 7, 8, 9, 10, 11, 15, 16, 17, 18, 19, 12, 13, 14] (by decide) rfl rfl (by decide) (by decide) rfl (by decide) 0 7 rfl rfl rfl rfl hl.1 rfl (Nat.le_of_ble_eq_true rfl) dX8_told_160 ⟨Nat.zero_le _, Nat.zero_le _⟩ (fun H locs hP hD hS => ?_)
    refine W.eq (g2 := F0 m 163 ls []) rfl ?_
    refine lv_aload_n (pc := 163) hx hb dX8_told_163 rfl (lv_at hl 0 rfl) ?_
    refine va_get (pc := 164) (ci := 8) (C := RX8) (T := TX8) (N := 8) hx hb hts inX8 hown hK hP 0 rfl rfl 5 (by decide) fl47 (fun _ h9 => h9) rfl dX8_told_164 ?_
    refine lv_aload_n (pc := 167) hx hb dX8_told_167 rfl (lv_at hl 0 rfl) ?_
    refine va_get (pc := 168) (ci := 8) (C := RX8) (T := TX8) (N := 8) hx hb hts inX8 hown hK hP 0 rfl rfl 0 (by decide) fl10 (fun _ h9 => h9) rfl dX8_told_168 ?_
    obtain ⟨r_2, hC4, hF⟩ := ob1_e hF
    refine zVr (pc := 171) (As := [.ref so]) (rest := []) E (tX7_fault l D cI cZ cM cS wo wd wr we so sca sna sla sra ord_1 earl_1 sn sl sfin swk snear hC4) 1 gX8_told_X7_fault rfl rfl rfl (by decide +kernel) ⟨Nat.le_of_ble_eq_true rfl, Nat.le_of_ble_eq_true rfl⟩ hK hP [14, 15, 16, 1, 3] rfl 0 7 rfl rfl rfl rfl hl.1 rfl (Nat.le_of_ble_eq_true rfl) dX8_told_171 ⟨Nat.zero_le _, Nat.zero_le _⟩ ?_
    cases hF
    exact hRet _ _ _ _ rfl dX8_told_174 hP hD hS
  have hF := oif_f hF hk10107
  by_cases hk10108 : p1 = (12 : Int32)
  · have hF := oif_t hF hk10108
    rw [hk10108] at exs
    rw [exs]
    refine lv_tableIn (pc := 1) (tgt := 175) hx hb dX8_told_1 (by decide) (by decide) rfl (by decide) ?_
    refine lv_aload_n (pc := 175) hx hb dX8_told_175 rfl (lv_at hl 0 rfl) ?_
    refine va_get (pc := 176) (ci := 8) (C := RX8) (T := TX8) (N := 8) hx hb hts inX8 hown hK hP 0 rfl rfl 5 (by decide) fl47 (fun _ h9 => h9) rfl dX8_told_176 ?_
    refine lv_aload_n (pc := 179) hx hb dX8_told_179 rfl (lv_at hl 0 rfl) ?_
    refine va_get (pc := 180) (ci := 8) (C := RX8) (T := TX8) (N := 8) hx hb hts inX8 hown hK hP 0 rfl rfl 0 (by decide) fl10 (fun _ h9 => h9) rfl dX8_told_180 ?_
    refine lv_iconst (v := (0 : Int32)) (pc := 183) hx hb dX8_told_183 (by decide) ?_
    obtain ⟨ord_2, earl_2, kc_2, kf_2, hC5, hF⟩ := ob4_e hF
    refine zV (pc := 184) (As := [.ref so, .int (0 : Int32)]) (rest := []) (wr := [(xo, .inr (8, [.ref so, .ref ho, .ref ko, .ref ia, .ref fo, .ref wo, .ref zo, .ref dr])), (sca, .inl (cI, 12, .inl scols)), (sla, .inl (cI, 36, .inl slds)), (sra, .inr (5, [.ref qs, .int qc])), (qs, .inl (cI, 12, .inl qf)), (ho, .inr (2, [.ref rr, .int hnx, .int hct])), (ko, .inr (0, [.ref ki, .ref kk, .int kn])), (ki, .inl (cI, 20, .inl kits)), (kk, .inl (cI, 20, .inl kcls)), (fo, .inr (4, [.ref bo])), (bo, .inr (5, [.ref bs, .int bc])), (bs, .inl (cI, 12, .inl bf)), (zo, .inr (5, [.ref zs, .int zc])), (zs, .inl (cI, 12, .inl zf)), (dr, .inr (1, [.int dst]))]) (w2 := (wX8_told cI cZ cM cS xo so ho ko ia fo wo zo dr sca sna sla sra qs rr ki kk bo bs wd wr we ks zs sn sl sfin swk scols snear slds qc qf hnx hct kn kits kcls bc bf ord_2 earl_2 kc_2 kf_2 zc zf dst)) E (tX7_walkFrom l D cI cZ cM cS wo wd wr we ks so sca sna sla sra ord earl kc kf sn sl sfin swk snear (0 : Int32) hC5) 2 gX8_told_X7_walkFrom rfl rfl rfl (by decide +kernel) ⟨Nat.le_of_ble_eq_true rfl, Nat.le_of_ble_eq_true rfl⟩ hK hP hD hS hA [14, 15, 16, 17, 18, 1, 3] [0, 2, 4, 5, 6, 7, 8, 9, 10, 11, 12, 13, 19, 20, 21] [0, 20, 1, 21, 2, 3, 4, 5, 6, 7, 8, 9, 10, 11, 15, 16, 17, 18, 19, 12, 13, 14] (by decide) rfl rfl (by decide) (by decide) rfl (by decide) 0 7 rfl rfl rfl rfl hl.1 rfl (Nat.le_of_ble_eq_true rfl) dX8_told_184 ⟨Nat.zero_le _, Nat.zero_le _⟩ (fun H locs hP hD hS => ?_)
    refine W.eq (g2 := F0 m 187 ls []) rfl ?_
    refine lv_aload_n (pc := 187) hx hb dX8_told_187 rfl (lv_at hl 0 rfl) ?_
    refine va_get (pc := 188) (ci := 8) (C := RX8) (T := TX8) (N := 8) hx hb hts inX8 hown hK hP 0 rfl rfl 5 (by decide) fl47 (fun _ h9 => h9) rfl dX8_told_188 ?_
    refine lv_aload_n (pc := 191) hx hb dX8_told_191 rfl (lv_at hl 0 rfl) ?_
    refine va_get (pc := 192) (ci := 8) (C := RX8) (T := TX8) (N := 8) hx hb hts inX8 hown hK hP 0 rfl rfl 0 (by decide) fl10 (fun _ h9 => h9) rfl dX8_told_192 ?_
    obtain ⟨r_3, hC6, hF⟩ := ob1_e hF
    refine zVr (pc := 195) (As := [.ref so]) (rest := []) E (tX7_fault l D cI cZ cM cS wo wd wr we so sca sna sla sra ord_2 earl_2 sn sl sfin swk snear hC6) 1 gX8_told_X7_fault rfl rfl rfl (by decide +kernel) ⟨Nat.le_of_ble_eq_true rfl, Nat.le_of_ble_eq_true rfl⟩ hK hP [14, 15, 16, 1, 3] rfl 0 7 rfl rfl rfl rfl hl.1 rfl (Nat.le_of_ble_eq_true rfl) dX8_told_195 ⟨Nat.zero_le _, Nat.zero_le _⟩ ?_
    refine lv_iconst (v := (-1 : Int32)) (pc := 198) hx hb dX8_told_198 (by decide) ?_
    refine lv_icmp_ne (pc := 199) (tgt := 216) hx hb dX8_told_199 (by decide) (fun hc => ?_) (fun hc => ?_)
    · have hF := oif_f hF hc
      refine lv_iconst (v := (-1 : Int32)) (pc := 216) hx hb dX8_told_216 (by decide) ?_
      cases hF
      exact hRet _ _ _ _ rfl dX8_told_217 hP hD hS
    · have hF := oif_t hF hc
      refine lv_aload_n (pc := 202) hx hb dX8_told_202 rfl (lv_at hl 0 rfl) ?_
      refine va_get (pc := 203) (ci := 8) (C := RX8) (T := TX8) (N := 8) hx hb hts inX8 hown hK hP 0 rfl rfl 5 (by decide) fl47 (fun _ h9 => h9) rfl dX8_told_203 ?_
      refine lv_aload_n (pc := 206) hx hb dX8_told_206 rfl (lv_at hl 0 rfl) ?_
      refine va_get (pc := 207) (ci := 8) (C := RX8) (T := TX8) (N := 8) hx hb hts inX8 hown hK hP 0 rfl rfl 0 (by decide) fl10 (fun _ h9 => h9) rfl dX8_told_207 ?_
      obtain ⟨r_4, hC7, hF⟩ := ob1_e hF
      refine zVr (pc := 210) (As := [.ref so]) (rest := []) E (tX7_clique l D cI cZ cM cS wo wd wr we so sca sna sla sra ord_2 earl_2 sn sl sfin swk snear hC7) 1 gX8_told_X7_clique rfl rfl rfl (by decide +kernel) ⟨Nat.le_of_ble_eq_true rfl, Nat.le_of_ble_eq_true rfl⟩ hK hP [14, 15, 16, 1, 3] rfl 0 7 rfl rfl rfl rfl hl.1 rfl (Nat.le_of_ble_eq_true rfl) dX8_told_210 ⟨Nat.zero_le _, Nat.zero_le _⟩ ?_
      refine lv_goto (pc := 213) (tgt := 217) hx hb dX8_told_213 (by decide) ?_
      cases hF
      exact hRet _ _ _ _ rfl dX8_told_217 hP hD hS
  have hF := oif_f hF hk10108
  by_cases hk10109 : p1 = (13 : Int32)
  · have hF := oif_t hF hk10109
    rw [hk10109] at exs
    rw [exs]
    refine lv_tableIn (pc := 1) (tgt := 218) hx hb dX8_told_1 (by decide) (by decide) rfl (by decide) ?_
    refine lv_aload_n (pc := 218) hx hb dX8_told_218 rfl (lv_at hl 0 rfl) ?_
    refine va_get (pc := 219) (ci := 8) (C := RX8) (T := TX8) (N := 8) hx hb hts inX8 hown hK hP 0 rfl rfl 2 (by decide) fl26 (fun _ h9 => h9) rfl dX8_told_219 ?_
    refine va_get (pc := 222) (ci := 0) (C := RX0) (T := TX0) (N := 3) hx hb hts inX0 hown hK hP 8 rfl rfl 2 (by decide) fl103 (fun _ h9 => h9) rfl dX8_told_222 ?_
    cases hF
    exact hRet _ _ _ _ rfl dX8_told_225 hP hD hS
  have hF := oif_f hF hk10109
  by_cases hk10110 : p1 = (14 : Int32)
  · have hF := oif_t hF hk10110
    rw [hk10110] at exs
    rw [exs]
    refine lv_tableIn (pc := 1) (tgt := 226) hx hb dX8_told_1 (by decide) (by decide) rfl (by decide) ?_
    refine lv_aload_n (pc := 226) hx hb dX8_told_226 rfl (lv_at hl 0 rfl) ?_
    refine va_get (pc := 227) (ci := 8) (C := RX8) (T := TX8) (N := 8) hx hb hts inX8 hown hK hP 0 rfl rfl 2 (by decide) fl26 (fun _ h9 => h9) rfl dX8_told_227 ?_
    refine lv_aload_n (pc := 230) hx hb dX8_told_230 rfl (lv_at hl 0 rfl) ?_
    refine va_get (pc := 231) (ci := 8) (C := RX8) (T := TX8) (N := 8) hx hb hts inX8 hown hK hP 0 rfl rfl 0 (by decide) fl10 (fun _ h9 => h9) rfl dX8_told_231 ?_
    obtain ⟨r_5, hC8, hF⟩ := ob1_e hF
    refine zVr (pc := 234) (As := [.ref so]) (rest := []) E (tX0_firstWrong l D cI cZ cM cS ko ki kk so sca sna sla sra qs kn kits kcls sn sl sfin swk qc qf hC8) 1 gX8_told_X0_firstWrong rfl rfl rfl (by decide +kernel) ⟨Nat.le_of_ble_eq_true rfl, Nat.le_of_ble_eq_true rfl⟩ hK hP [8, 9, 10, 1, 5, 6] rfl 0 0 rfl rfl rfl rfl hl.1 rfl (Nat.le_of_ble_eq_true rfl) dX8_told_234 ⟨Nat.zero_le _, Nat.zero_le _⟩ ?_
    cases hF
    exact hRet _ _ _ _ rfl dX8_told_237 hP hD hS
  have hF := oif_f hF hk10110
  by_cases hk10111 : p1 = (15 : Int32)
  · have hF := oif_t hF hk10111
    rw [hk10111] at exs
    rw [exs]
    refine lv_tableIn (pc := 1) (tgt := 238) hx hb dX8_told_1 (by decide) (by decide) rfl (by decide) ?_
    refine lv_aload_n (pc := 238) hx hb dX8_told_238 rfl (lv_at hl 0 rfl) ?_
    refine va_get (pc := 239) (ci := 8) (C := RX8) (T := TX8) (N := 8) hx hb hts inX8 hown hK hP 0 rfl rfl 1 (by decide) fl19 (fun _ h9 => h9) rfl dX8_told_239 ?_
    refine va_get (pc := 242) (ci := 2) (C := RX2) (T := TX2) (N := 3) hx hb hts inX2 hown hK hP 7 rfl rfl 2 (by decide) fl109 (fun _ h9 => h9) rfl dX8_told_242 ?_
    cases hF
    exact hRet _ _ _ _ rfl dX8_told_245 hP hD hS
  have hF := oif_f hF hk10111
  by_cases hk10112 : p1 = (16 : Int32)
  · have hF := oif_t hF hk10112
    rw [hk10112] at exs
    rw [exs]
    refine lv_tableIn (pc := 1) (tgt := 246) hx hb dX8_told_1 (by decide) (by decide) rfl (by decide) ?_
    refine lv_aload_n (pc := 246) hx hb dX8_told_246 rfl (lv_at hl 0 rfl) ?_
    refine va_get (pc := 247) (ci := 8) (C := RX8) (T := TX8) (N := 8) hx hb hts inX8 hown hK hP 0 rfl rfl 7 (by decide) fl61 (fun _ h9 => h9) rfl dX8_told_247 ?_
    refine va_get (pc := 250) (ci := 1) (C := RX1) (T := TX1) (N := 1) hx hb hts inX1 hown hK hP 21 rfl rfl 0 (by decide) fl110 (fun _ h9 => h9) rfl dX8_told_250 ?_
    cases hF
    exact hRet _ _ _ _ rfl dX8_told_253 hP hD hS
  have hF := oif_f hF hk10112
  rw [exs]
  refine lv_tableOut (pc := 1) (tgt := 254) hx hb dX8_told_1 (ztabO 17 [0, 1, 2, 3, 4, 5, 6, 7, 8, 9, 10, 11, 12, 13, 14, 15, 16] (by decide) (by decide) (zallC hk10100 (zallC hk10101 (zallC hk10102 (zallC hk10103 (zallC hk10104 (zallC hk10105 (zallC (fun q => hk10106 (.inl q)) (zallC (fun q => hk10106 (.inr (.inl q))) (zallC (fun q => hk10106 (.inr (.inr (.inl q)))) (zallC (fun q => hk10106 (.inr (.inr (.inr (.inl q))))) (zallC (fun q => hk10106 (.inr (.inr (.inr (.inr (q)))))) (zallC hk10107 (zallC hk10108 (zallC hk10109 (zallC hk10110 (zallC hk10111 (zallC hk10112 zallN)))))))))))))))))) (by decide) ?_
  refine lv_ldc (v := (-1000000002 : Int32)) (pc := 254) hx hb hown cn113 dX8_told_254 ?_
  cases hF
  exact hRet _ _ _ _ rfl dX8_told_256 hP hD hS
def fX8_item (p1 : Int32) (p2 : Int32) (sn : Int32) (sl : Int32) (sfin : Int32) (swk : Int32) (scols : (Nat → Int32)) (snear : (Nat → Int32)) (slds : (Nat → Int32)) (qc : Int32) (qf : (Nat → Int32)) : Option (Int32) := (ob1 (fX6_hasItem p1 sn sl sfin swk) (fun r_1 => (if r_1 = (0 : Int32) then (some (-1000000001 : Int32)) else (if p2 = (0 : Int32) then (ogd p1 12 (some (scols (Int32.toNatClampNeg p1)))) else (if p2 = (1 : Int32) then (ogd p1 12 (some (snear (Int32.toNatClampNeg p1)))) else (if p2 = (2 : Int32) then (ob1 (fX5_placeOf p1 qc qf) (fun r_2 => (some r_2))) else (if p2 = (3 : Int32) then (ob1 (fX5_placeOf p1 qc qf) (fun r_3 => (ob1 (fX5_setAt r_3 qc qf) (fun r_4 => (ob1 (fJ6_bitCount_0f7a4 r_4) (fun r_5 => (some r_5))))))) else (if p2 = (4 : Int32) ∨ p2 = (5 : Int32) ∨ p2 = (6 : Int32) then (ob1 (fX6_hasLetter (p2 - (4 : Int32)) sn sl sfin swk) (fun r_6 => (if r_6 = (0 : Int32) then (some (-1 : Int32)) else (ob1 (fX6_leadsTo p1 (p2 - (4 : Int32)) sn sl sfin swk slds) (fun r_7 => (some r_7)))))) else (some (-1000000002 : Int32))))))))))
abbrev wX8_item (cI cZ cM cS : ClassId) (xo so ho ko ia fo wo zo dr sca sna sla sra qs : Nat) (sn : Int32) (sl : Int32) (sfin : Int32) (swk : Int32) (scols : (Nat → Int32)) (snear : (Nat → Int32)) (slds : (Nat → Int32)) (qc : Int32) (qf : (Nat → Int32)) : va_W := [(xo, .inr (8, [.ref so, .ref ho, .ref ko, .ref ia, .ref fo, .ref wo, .ref zo, .ref dr])), (so, .inr (6, [.int sn, .int sl, .int sfin, .int swk, .ref sca, .ref sna, .ref sla, .ref sra])), (sca, .inl (cI, 12, .inl scols)), (sna, .inl (cI, 12, .inl snear)), (sla, .inl (cI, 36, .inl slds)), (sra, .inr (5, [.ref qs, .int qc])), (qs, .inl (cI, 12, .inl qf))]
set_option maxHeartbeats 4000000 in
set_option maxRecDepth 100000 in
theorem tX8_item (l : Launch) (D : va_G) (cI cZ cM cS : ClassId) (xo so ho ko ia fo wo zo dr sca sna sla sra qs : Nat) (sn : Int32) (sl : Int32) (sfin : Int32) (swk : Int32) (scols : (Nat → Int32)) (snear : (Nat → Int32)) (slds : (Nat → Int32)) (qc : Int32) (qf : (Nat → Int32)) (p1 : Int32) (p2 : Int32) {r : Int32} (hF : fX8_item p1 p2 sn sl sfin swk scols snear slds qc qf = some r) : zCR l yX8_item wsX8_item (zRm 2 43) D (zTy cI cZ cM cS) [.ref xo, .int p1, .int p2] (wX8_item cI cZ cM cS xo so ho ko ia fo wo zo dr sca sna sla sra qs sn sl sfin swk scols snear slds qc qf) r := by
  unfold fX8_item at hF
  refine zCR_of (cc := cX8_item) (maxL := 3) (own := RX8) (by decide +kernel) rfl rfl (Nat.le_of_ble_eq_true rfl) (fun p e s m args below meth c Q ls E hK hP hRet hl => ?_)
  have hl : lv_has ls 3 [(0, .ref xo), (1, .int p1), (2, .int p2)] := hl
  obtain ⟨hx, hb, hml, hown, hts⟩ := id E
  have inX6 : ∀ w ∈ u_ws RX6 TX6 8, w ∈ wsX8_item := by decide +kernel
  have inX8 : ∀ w ∈ u_ws RX8 TX8 8, w ∈ wsX8_item := by decide +kernel
  have fl10 := hts (.fieldLink RX8 10 "SplitClasses" "now" "LSplitClasses$State;") (by decide +kernel)
  have fl119 := hts (.fieldLink RX8 119 "SplitClasses$State" "columnSets" "[I") (by decide +kernel)
  have fl123 := hts (.fieldLink RX8 123 "SplitClasses$State" "nearSets" "[I") (by decide +kernel)
  have fl69 := hts (.fieldLink RX8 69 "SplitClasses$State" "row" "LSplitClasses$Row;") (by decide +kernel)
  have cn113 := hts (.constant RX8 113 (-1000000002)) (by decide +kernel)
  have cn118 := hts (.constant RX8 118 (-1000000001)) (by decide +kernel)
  refine lv_aload_n (pc := 0) hx hb dX8_item_0 rfl (lv_at hl 0 rfl) ?_
  refine va_get (pc := 1) (ci := 8) (C := RX8) (T := TX8) (N := 8) hx hb hts inX8 hown hK hP 0 rfl rfl 0 (by decide) fl10 (fun _ h9 => h9) rfl dX8_item_1 ?_
  refine lv_iload_n (pc := 4) hx hb dX8_item_4 rfl (lv_at hl 1 rfl) ?_
  obtain ⟨r_1, hC1, hF⟩ := ob1_e hF
  refine zVr (pc := 5) (As := [.int p1]) (rest := []) E (tX6_hasItem l D cI cZ cM cS so sca sna sla sra sn sl sfin swk p1 hC1) 1 gX8_item_X6_hasItem rfl rfl rfl (by decide +kernel) ⟨Nat.le_of_ble_eq_true rfl, Nat.le_of_ble_eq_true rfl⟩ hK hP [1] rfl 0 6 rfl rfl rfl rfl hl.1 rfl (Nat.le_of_ble_eq_true rfl) dX8_item_5 ⟨Nat.zero_le _, Nat.zero_le _⟩ ?_
  refine lv_if_ne (pc := 8) (tgt := 14) hx hb dX8_item_8 (by decide) (fun hc => ?_) (fun hc => ?_)
  · have hF := oif_f hF hc
    refine lv_iload_n (pc := 14) hx hb dX8_item_14 rfl (lv_at hl 2 rfl) ?_
    refine lv_topi (fun xs exs => ?_)
    by_cases hk11500 : p2 = (0 : Int32)
    · have hF := oif_t hF hk11500
      rw [hk11500] at exs
      rw [exs]
      refine lv_tableIn (pc := 15) (tgt := 56) hx hb dX8_item_15 (by decide) (by decide) rfl (by decide) ?_
      refine lv_aload_n (pc := 56) hx hb dX8_item_56 rfl (lv_at hl 0 rfl) ?_
      refine va_get (pc := 57) (ci := 8) (C := RX8) (T := TX8) (N := 8) hx hb hts inX8 hown hK hP 0 rfl rfl 0 (by decide) fl10 (fun _ h9 => h9) rfl dX8_item_57 ?_
      refine va_get (pc := 60) (ci := 6) (C := RX6) (T := TX6) (N := 8) hx hb hts inX6 hown hK hP 1 rfl rfl 4 (by decide) fl119 (fun _ h9 => h9) rfl dX8_item_60 ?_
      refine lv_iload_n (pc := 63) hx hb dX8_item_63 rfl (lv_at hl 1 rfl) ?_
      obtain ⟨hg2, hF⟩ := ogd_e hF
      refine va_iald (pc := 64) hx hb hK hP 2 0 rfl rfl hg2 dX8_item_64 ?_
      cases hF
      exact hRet _ _ rfl dX8_item_65
    have hF := oif_f hF hk11500
    by_cases hk11501 : p2 = (1 : Int32)
    · have hF := oif_t hF hk11501
      rw [hk11501] at exs
      rw [exs]
      refine lv_tableIn (pc := 15) (tgt := 66) hx hb dX8_item_15 (by decide) (by decide) rfl (by decide) ?_
      refine lv_aload_n (pc := 66) hx hb dX8_item_66 rfl (lv_at hl 0 rfl) ?_
      refine va_get (pc := 67) (ci := 8) (C := RX8) (T := TX8) (N := 8) hx hb hts inX8 hown hK hP 0 rfl rfl 0 (by decide) fl10 (fun _ h9 => h9) rfl dX8_item_67 ?_
      refine va_get (pc := 70) (ci := 6) (C := RX6) (T := TX6) (N := 8) hx hb hts inX6 hown hK hP 1 rfl rfl 5 (by decide) fl123 (fun _ h9 => h9) rfl dX8_item_70 ?_
      refine lv_iload_n (pc := 73) hx hb dX8_item_73 rfl (lv_at hl 1 rfl) ?_
      obtain ⟨hg3, hF⟩ := ogd_e hF
      refine va_iald (pc := 74) hx hb hK hP 3 0 rfl rfl hg3 dX8_item_74 ?_
      cases hF
      exact hRet _ _ rfl dX8_item_75
    have hF := oif_f hF hk11501
    by_cases hk11502 : p2 = (2 : Int32)
    · have hF := oif_t hF hk11502
      rw [hk11502] at exs
      rw [exs]
      refine lv_tableIn (pc := 15) (tgt := 76) hx hb dX8_item_15 (by decide) (by decide) rfl (by decide) ?_
      refine lv_aload_n (pc := 76) hx hb dX8_item_76 rfl (lv_at hl 0 rfl) ?_
      refine va_get (pc := 77) (ci := 8) (C := RX8) (T := TX8) (N := 8) hx hb hts inX8 hown hK hP 0 rfl rfl 0 (by decide) fl10 (fun _ h9 => h9) rfl dX8_item_77 ?_
      refine va_get (pc := 80) (ci := 6) (C := RX6) (T := TX6) (N := 8) hx hb hts inX6 hown hK hP 1 rfl rfl 7 (by decide) fl69 (fun _ h9 => h9) rfl dX8_item_80 ?_
      refine lv_iload_n (pc := 83) hx hb dX8_item_83 rfl (lv_at hl 1 rfl) ?_
      obtain ⟨r_2, hC4, hF⟩ := ob1_e hF
      refine zVr (pc := 84) (As := [.int p1]) (rest := []) E (tX5_placeOf l D cI cZ cM cS sra qs qc qf p1 hC4) 1 gX8_item_X5_placeOf rfl rfl rfl (by decide +kernel) ⟨Nat.le_of_ble_eq_true rfl, Nat.le_of_ble_eq_true rfl⟩ hK hP [5, 6] rfl 0 5 rfl rfl rfl rfl hl.1 rfl (Nat.le_of_ble_eq_true rfl) dX8_item_84 ⟨Nat.zero_le _, Nat.zero_le _⟩ ?_
      cases hF
      exact hRet _ _ rfl dX8_item_87
    have hF := oif_f hF hk11502
    by_cases hk11503 : p2 = (3 : Int32)
    · have hF := oif_t hF hk11503
      rw [hk11503] at exs
      rw [exs]
      refine lv_tableIn (pc := 15) (tgt := 88) hx hb dX8_item_15 (by decide) (by decide) rfl (by decide) ?_
      refine lv_aload_n (pc := 88) hx hb dX8_item_88 rfl (lv_at hl 0 rfl) ?_
      refine va_get (pc := 89) (ci := 8) (C := RX8) (T := TX8) (N := 8) hx hb hts inX8 hown hK hP 0 rfl rfl 0 (by decide) fl10 (fun _ h9 => h9) rfl dX8_item_89 ?_
      refine va_get (pc := 92) (ci := 6) (C := RX6) (T := TX6) (N := 8) hx hb hts inX6 hown hK hP 1 rfl rfl 7 (by decide) fl69 (fun _ h9 => h9) rfl dX8_item_92 ?_
      refine lv_aload_n (pc := 95) hx hb dX8_item_95 rfl (lv_at hl 0 rfl) ?_
      refine va_get (pc := 96) (ci := 8) (C := RX8) (T := TX8) (N := 8) hx hb hts inX8 hown hK hP 0 rfl rfl 0 (by decide) fl10 (fun _ h9 => h9) rfl dX8_item_96 ?_
      refine va_get (pc := 99) (ci := 6) (C := RX6) (T := TX6) (N := 8) hx hb hts inX6 hown hK hP 1 rfl rfl 7 (by decide) fl69 (fun _ h9 => h9) rfl dX8_item_99 ?_
      refine lv_iload_n (pc := 102) hx hb dX8_item_102 rfl (lv_at hl 1 rfl) ?_
      obtain ⟨r_3, hC5, hF⟩ := ob1_e hF
      refine zVr (pc := 103) (As := [.int p1]) (rest := [.ref sra]) E (tX5_placeOf l D cI cZ cM cS sra qs qc qf p1 hC5) 1 gX8_item_X5_placeOf rfl rfl rfl (by decide +kernel) ⟨Nat.le_of_ble_eq_true rfl, Nat.le_of_ble_eq_true rfl⟩ hK hP [5, 6] rfl 0 5 rfl rfl rfl rfl hl.1 rfl (Nat.le_of_ble_eq_true rfl) dX8_item_103 ⟨Nat.zero_le _, Nat.zero_le _⟩ ?_
      obtain ⟨r_4, hC6, hF⟩ := ob1_e hF
      refine zVr (pc := 106) (As := [.int r_3]) (rest := []) E (tX5_setAt l D cI cZ cM cS sra qs qc qf r_3 hC6) 1 gX8_item_X5_setAt rfl rfl rfl (by decide +kernel) ⟨Nat.le_of_ble_eq_true rfl, Nat.le_of_ble_eq_true rfl⟩ hK hP [5, 6] rfl 0 5 rfl rfl rfl rfl hl.1 rfl (Nat.le_of_ble_eq_true rfl) dX8_item_106 ⟨Nat.zero_le _, Nat.zero_le _⟩ ?_
      obtain ⟨r_5, hC7, hF⟩ := ob1_e hF
      refine zSr (pc := 109) (As := [.int r_4]) (rest := []) E (tJ6_bitCount_0f7a4 l D cI cZ cM cS r_4 hC7) 1 gX8_item_J6_bitCount_0f7a4 rfl rfl rfl (by decide +kernel) ⟨Nat.le_of_ble_eq_true rfl, Nat.le_of_ble_eq_true rfl⟩ hK hP [] rfl rfl hl.1 rfl (Nat.le_of_ble_eq_true rfl) dX8_item_109 ⟨Nat.zero_le _, Nat.zero_le _⟩ ?_
      cases hF
      exact hRet _ _ rfl dX8_item_112
    have hF := oif_f hF hk11503
    by_cases hk11504 : p2 = (4 : Int32) ∨ p2 = (5 : Int32) ∨ p2 = (6 : Int32)
    · have hF := oif_t hF hk11504
      have hg : W p l e (zRm 2 43) s m args below meth c s.heap [] 0 0 Q (F0 m 113 ls []) := by
        refine lv_aload_n (pc := 113) hx hb dX8_item_113 rfl (lv_at hl 0 rfl) ?_
        refine va_get (pc := 114) (ci := 8) (C := RX8) (T := TX8) (N := 8) hx hb hts inX8 hown hK hP 0 rfl rfl 0 (by decide) fl10 (fun _ h9 => h9) rfl dX8_item_114 ?_
        refine lv_iload_n (pc := 117) hx hb dX8_item_117 rfl (lv_at hl 2 rfl) ?_
        refine lv_iconst (v := (4 : Int32)) (pc := 118) hx hb dX8_item_118 (by decide) ?_
        refine lv_isub (pc := 119) hx hb dX8_item_119 ?_
        obtain ⟨r_6, hC8, hF⟩ := ob1_e hF
        refine zVr (pc := 120) (As := [.int (p2 - (4 : Int32))]) (rest := []) E (tX6_hasLetter l D cI cZ cM cS so sca sna sla sra sn sl sfin swk (p2 - (4 : Int32)) hC8) 1 gX8_item_X6_hasLetter rfl rfl rfl (by decide +kernel) ⟨Nat.le_of_ble_eq_true rfl, Nat.le_of_ble_eq_true rfl⟩ hK hP [1] rfl 0 6 rfl rfl rfl rfl hl.1 rfl (Nat.le_of_ble_eq_true rfl) dX8_item_120 ⟨Nat.zero_le _, Nat.zero_le _⟩ ?_
        refine lv_if_eq (pc := 123) (tgt := 140) hx hb dX8_item_123 (by decide) (fun hc => ?_) (fun hc => ?_)
        · have hF := oif_t hF hc
          refine lv_iconst (v := (-1 : Int32)) (pc := 140) hx hb dX8_item_140 (by decide) ?_
          cases hF
          exact hRet _ _ rfl dX8_item_141
        · have hF := oif_f hF hc
          refine lv_aload_n (pc := 126) hx hb dX8_item_126 rfl (lv_at hl 0 rfl) ?_
          refine va_get (pc := 127) (ci := 8) (C := RX8) (T := TX8) (N := 8) hx hb hts inX8 hown hK hP 0 rfl rfl 0 (by decide) fl10 (fun _ h9 => h9) rfl dX8_item_127 ?_
          refine lv_iload_n (pc := 130) hx hb dX8_item_130 rfl (lv_at hl 1 rfl) ?_
          refine lv_iload_n (pc := 131) hx hb dX8_item_131 rfl (lv_at hl 2 rfl) ?_
          refine lv_iconst (v := (4 : Int32)) (pc := 132) hx hb dX8_item_132 (by decide) ?_
          refine lv_isub (pc := 133) hx hb dX8_item_133 ?_
          obtain ⟨r_7, hC9, hF⟩ := ob1_e hF
          refine zVr (pc := 134) (As := [.int p1, .int (p2 - (4 : Int32))]) (rest := []) E (tX6_leadsTo l D cI cZ cM cS so sca sna sla sra sn sl sfin swk slds p1 (p2 - (4 : Int32)) hC9) 2 gX8_item_X6_leadsTo rfl rfl rfl (by decide +kernel) ⟨Nat.le_of_ble_eq_true rfl, Nat.le_of_ble_eq_true rfl⟩ hK hP [1, 4] rfl 0 6 rfl rfl rfl rfl hl.1 rfl (Nat.le_of_ble_eq_true rfl) dX8_item_134 ⟨Nat.zero_le _, Nat.zero_le _⟩ ?_
          refine lv_goto (pc := 137) (tgt := 141) hx hb dX8_item_137 (by decide) ?_
          cases hF
          exact hRet _ _ rfl dX8_item_141
      rcases hk11504 with hk | hk | hk
      · rw [hk] at exs
        rw [exs]
        refine lv_tableIn (pc := 15) (tgt := 113) hx hb dX8_item_15 (by decide) (by decide) rfl (by decide) ?_
        exact hg
      · rw [hk] at exs
        rw [exs]
        refine lv_tableIn (pc := 15) (tgt := 113) hx hb dX8_item_15 (by decide) (by decide) rfl (by decide) ?_
        exact hg
      · rw [hk] at exs
        rw [exs]
        refine lv_tableIn (pc := 15) (tgt := 113) hx hb dX8_item_15 (by decide) (by decide) rfl (by decide) ?_
        exact hg
    have hF := oif_f hF hk11504
    rw [exs]
    refine lv_tableOut (pc := 15) (tgt := 142) hx hb dX8_item_15 (ztabO 7 [0, 1, 2, 3, 4, 5, 6] (by decide) (by decide) (zallC hk11500 (zallC hk11501 (zallC hk11502 (zallC hk11503 (zallC (fun q => hk11504 (.inl q)) (zallC (fun q => hk11504 (.inr (.inl q))) (zallC (fun q => hk11504 (.inr (.inr (q)))) zallN)))))))) (by decide) ?_
    refine lv_ldc (v := (-1000000002 : Int32)) (pc := 142) hx hb hown cn113 dX8_item_142 ?_
    cases hF
    exact hRet _ _ rfl dX8_item_144
  · have hF := oif_t hF hc
    refine lv_ldc (v := (-1000000001 : Int32)) (pc := 11) hx hb hown cn118 dX8_item_11 ?_
    cases hF
    exact hRet _ _ rfl dX8_item_13
def fX8_classAt (p1 : Int32) (sn : Int32) (sl : Int32) (sfin : Int32) (swk : Int32) (qc : Int32) (qf : (Nat → Int32)) : Option (Int32) := (ob1 (fX5_hasPlace p1 qc qf) (fun r_1 => (if r_1 = (0 : Int32) then (some (-1000000001 : Int32)) else (ob1 (fX5_setAt p1 qc qf) (fun r_2 => (some r_2))))))
abbrev wX8_classAt (cI cZ cM cS : ClassId) (xo so ho ko ia fo wo zo dr sca sna sla sra qs : Nat) (sn : Int32) (sl : Int32) (sfin : Int32) (swk : Int32) (qc : Int32) (qf : (Nat → Int32)) : va_W := [(xo, .inr (8, [.ref so, .ref ho, .ref ko, .ref ia, .ref fo, .ref wo, .ref zo, .ref dr])), (so, .inr (6, [.int sn, .int sl, .int sfin, .int swk, .ref sca, .ref sna, .ref sla, .ref sra])), (sra, .inr (5, [.ref qs, .int qc])), (qs, .inl (cI, 12, .inl qf))]
set_option maxHeartbeats 4000000 in
set_option maxRecDepth 100000 in
theorem tX8_classAt (l : Launch) (D : va_G) (cI cZ cM cS : ClassId) (xo so ho ko ia fo wo zo dr sca sna sla sra qs : Nat) (sn : Int32) (sl : Int32) (sfin : Int32) (swk : Int32) (qc : Int32) (qf : (Nat → Int32)) (p1 : Int32) {r : Int32} (hF : fX8_classAt p1 sn sl sfin swk qc qf = some r) : zCR l yX8_classAt wsX8_classAt (zRm 2 42) D (zTy cI cZ cM cS) [.ref xo, .int p1] (wX8_classAt cI cZ cM cS xo so ho ko ia fo wo zo dr sca sna sla sra qs sn sl sfin swk qc qf) r := by
  unfold fX8_classAt at hF
  refine zCR_of (cc := cX8_classAt) (maxL := 2) (own := RX8) (by decide +kernel) rfl rfl (Nat.le_of_ble_eq_true rfl) (fun p e s m args below meth c Q ls E hK hP hRet hl => ?_)
  have hl : lv_has ls 2 [(0, .ref xo), (1, .int p1)] := hl
  obtain ⟨hx, hb, hml, hown, hts⟩ := id E
  have inX6 : ∀ w ∈ u_ws RX6 TX6 8, w ∈ wsX8_classAt := by decide +kernel
  have inX8 : ∀ w ∈ u_ws RX8 TX8 8, w ∈ wsX8_classAt := by decide +kernel
  have fl10 := hts (.fieldLink RX8 10 "SplitClasses" "now" "LSplitClasses$State;") (by decide +kernel)
  have fl69 := hts (.fieldLink RX8 69 "SplitClasses$State" "row" "LSplitClasses$Row;") (by decide +kernel)
  have cn118 := hts (.constant RX8 118 (-1000000001)) (by decide +kernel)
  refine lv_aload_n (pc := 0) hx hb dX8_classAt_0 rfl (lv_at hl 0 rfl) ?_
  refine va_get (pc := 1) (ci := 8) (C := RX8) (T := TX8) (N := 8) hx hb hts inX8 hown hK hP 0 rfl rfl 0 (by decide) fl10 (fun _ h9 => h9) rfl dX8_classAt_1 ?_
  refine va_get (pc := 4) (ci := 6) (C := RX6) (T := TX6) (N := 8) hx hb hts inX6 hown hK hP 1 rfl rfl 7 (by decide) fl69 (fun _ h9 => h9) rfl dX8_classAt_4 ?_
  refine lv_iload_n (pc := 7) hx hb dX8_classAt_7 rfl (lv_at hl 1 rfl) ?_
  obtain ⟨r_1, hC1, hF⟩ := ob1_e hF
  refine zVr (pc := 8) (As := [.int p1]) (rest := []) E (tX5_hasPlace l D cI cZ cM cS sra qs qc qf p1 hC1) 1 gX8_classAt_X5_hasPlace rfl rfl rfl (by decide +kernel) ⟨Nat.le_of_ble_eq_true rfl, Nat.le_of_ble_eq_true rfl⟩ hK hP [2, 3] rfl 0 5 rfl rfl rfl rfl hl.1 rfl (Nat.le_of_ble_eq_true rfl) dX8_classAt_8 ⟨Nat.zero_le _, Nat.zero_le _⟩ ?_
  refine lv_if_eq (pc := 11) (tgt := 28) hx hb dX8_classAt_11 (by decide) (fun hc => ?_) (fun hc => ?_)
  · have hF := oif_t hF hc
    refine lv_ldc (v := (-1000000001 : Int32)) (pc := 28) hx hb hown cn118 dX8_classAt_28 ?_
    cases hF
    exact hRet _ _ rfl dX8_classAt_30
  · have hF := oif_f hF hc
    refine lv_aload_n (pc := 14) hx hb dX8_classAt_14 rfl (lv_at hl 0 rfl) ?_
    refine va_get (pc := 15) (ci := 8) (C := RX8) (T := TX8) (N := 8) hx hb hts inX8 hown hK hP 0 rfl rfl 0 (by decide) fl10 (fun _ h9 => h9) rfl dX8_classAt_15 ?_
    refine va_get (pc := 18) (ci := 6) (C := RX6) (T := TX6) (N := 8) hx hb hts inX6 hown hK hP 1 rfl rfl 7 (by decide) fl69 (fun _ h9 => h9) rfl dX8_classAt_18 ?_
    refine lv_iload_n (pc := 21) hx hb dX8_classAt_21 rfl (lv_at hl 1 rfl) ?_
    obtain ⟨r_2, hC2, hF⟩ := ob1_e hF
    refine zVr (pc := 22) (As := [.int p1]) (rest := []) E (tX5_setAt l D cI cZ cM cS sra qs qc qf p1 hC2) 1 gX8_classAt_X5_setAt rfl rfl rfl (by decide +kernel) ⟨Nat.le_of_ble_eq_true rfl, Nat.le_of_ble_eq_true rfl⟩ hK hP [2, 3] rfl 0 5 rfl rfl rfl rfl hl.1 rfl (Nat.le_of_ble_eq_true rfl) dX8_classAt_22 ⟨Nat.zero_le _, Nat.zero_le _⟩ ?_
    refine lv_goto (pc := 25) (tgt := 30) hx hb dX8_classAt_25 (by decide) ?_
    cases hF
    exact hRet _ _ rfl dX8_classAt_30
def fX8_setBy (p1 : Int32) (p2 : Int32) (p3 : Int32) (sn : Int32) (sl : Int32) (sfin : Int32) (swk : Int32) (scols : (Nat → Int32)) (snear : (Nat → Int32)) (slds : (Nat → Int32)) (qc : Int32) (qf : (Nat → Int32)) : Option (Int32) := (ob1 (fX8_refusalOfSet p1 p2 p3 sn sl sfin swk qc qf) (fun r_1 => (if r_1 = (-1 : Int32) then (ob1 (fX6_setOfKind p1 p2 p3 sn sl sfin swk scols snear slds qc qf) (fun r_2 => (some r_2))) else (some r_1))))
abbrev wX8_setBy (cI cZ cM cS : ClassId) (xo so ho ko ia fo wo zo dr sca sna sla sra qs : Nat) (sn : Int32) (sl : Int32) (sfin : Int32) (swk : Int32) (scols : (Nat → Int32)) (snear : (Nat → Int32)) (slds : (Nat → Int32)) (qc : Int32) (qf : (Nat → Int32)) : va_W := [(xo, .inr (8, [.ref so, .ref ho, .ref ko, .ref ia, .ref fo, .ref wo, .ref zo, .ref dr])), (so, .inr (6, [.int sn, .int sl, .int sfin, .int swk, .ref sca, .ref sna, .ref sla, .ref sra])), (sca, .inl (cI, 12, .inl scols)), (sna, .inl (cI, 12, .inl snear)), (sla, .inl (cI, 36, .inl slds)), (sra, .inr (5, [.ref qs, .int qc])), (qs, .inl (cI, 12, .inl qf))]
set_option maxHeartbeats 4000000 in
set_option maxRecDepth 100000 in
theorem tX8_setBy (l : Launch) (D : va_G) (cI cZ cM cS : ClassId) (xo so ho ko ia fo wo zo dr sca sna sla sra qs : Nat) (sn : Int32) (sl : Int32) (sfin : Int32) (swk : Int32) (scols : (Nat → Int32)) (snear : (Nat → Int32)) (slds : (Nat → Int32)) (qc : Int32) (qf : (Nat → Int32)) (p1 : Int32) (p2 : Int32) (p3 : Int32) {r : Int32} (hF : fX8_setBy p1 p2 p3 sn sl sfin swk scols snear slds qc qf = some r) : zCR l yX8_setBy wsX8_setBy (zRm 4 91) D (zTy cI cZ cM cS) [.ref xo, .int p1, .int p2, .int p3] (wX8_setBy cI cZ cM cS xo so ho ko ia fo wo zo dr sca sna sla sra qs sn sl sfin swk scols snear slds qc qf) r := by
  unfold fX8_setBy at hF
  refine zCR_of (cc := cX8_setBy) (maxL := 5) (own := RX8) (by decide +kernel) rfl rfl (Nat.le_of_ble_eq_true rfl) (fun p e s m args below meth c Q ls E hK hP hRet hl => ?_)
  have hl : lv_has ls 5 [(0, .ref xo), (1, .int p1), (2, .int p2), (3, .int p3)] := hl
  obtain ⟨hx, hb, hml, hown, hts⟩ := id E
  have inX6 : ∀ w ∈ u_ws RX6 TX6 8, w ∈ wsX8_setBy := by decide +kernel
  have inX8 : ∀ w ∈ u_ws RX8 TX8 8, w ∈ wsX8_setBy := by decide +kernel
  have fl10 := hts (.fieldLink RX8 10 "SplitClasses" "now" "LSplitClasses$State;") (by decide +kernel)
  have fl69 := hts (.fieldLink RX8 69 "SplitClasses$State" "row" "LSplitClasses$Row;") (by decide +kernel)
  refine lv_aload_n (pc := 0) hx hb dX8_setBy_0 rfl (lv_at hl 0 rfl) ?_
  refine lv_iload_n (pc := 1) hx hb dX8_setBy_1 rfl (lv_at hl 1 rfl) ?_
  refine lv_iload_n (pc := 2) hx hb dX8_setBy_2 rfl (lv_at hl 2 rfl) ?_
  refine lv_iload_n (pc := 3) hx hb dX8_setBy_3 rfl (lv_at hl 3 rfl) ?_
  obtain ⟨r_1, hC1, hF⟩ := ob1_e hF
  refine zVr (pc := 4) (As := [.int p1, .int p2, .int p3]) (rest := []) E (tX8_refusalOfSet l D cI cZ cM cS xo so ho ko ia fo wo zo dr sca sna sla sra qs sn sl sfin swk qc qf p1 p2 p3 hC1) 3 gX8_setBy_X8_refusalOfSet rfl rfl rfl (by decide +kernel) ⟨Nat.le_of_ble_eq_true rfl, Nat.le_of_ble_eq_true rfl⟩ hK hP [0, 1, 5, 6] rfl 0 8 rfl rfl rfl rfl hl.1 rfl (Nat.le_of_ble_eq_true rfl) dX8_setBy_4 ⟨Nat.zero_le _, Nat.zero_le _⟩ ?_
  refine lv_istore (lv' := [(4, .int r_1), (0, .ref xo), (1, .int p1), (2, .int p2), (3, .int p3)]) (pc := 7) hx hb dX8_setBy_7 hl (by decide) rfl (fun ls hl => ?_)
  refine lv_iload (pc := 9) hx hb dX8_setBy_9 (lv_at hl 0 rfl) ?_
  refine lv_iconst (v := (-1 : Int32)) (pc := 11) hx hb dX8_setBy_11 (by decide) ?_
  refine lv_icmp_eq (pc := 12) (tgt := 20) hx hb dX8_setBy_12 (by decide) (fun hc => ?_) (fun hc => ?_)
  · have hF := oif_t hF hc
    refine lv_aload_n (pc := 20) hx hb dX8_setBy_20 rfl (lv_at hl 1 rfl) ?_
    refine va_get (pc := 21) (ci := 8) (C := RX8) (T := TX8) (N := 8) hx hb hts inX8 hown hK hP 0 rfl rfl 0 (by decide) fl10 (fun _ h9 => h9) rfl dX8_setBy_21 ?_
    refine lv_aload_n (pc := 24) hx hb dX8_setBy_24 rfl (lv_at hl 1 rfl) ?_
    refine va_get (pc := 25) (ci := 8) (C := RX8) (T := TX8) (N := 8) hx hb hts inX8 hown hK hP 0 rfl rfl 0 (by decide) fl10 (fun _ h9 => h9) rfl dX8_setBy_25 ?_
    refine va_get (pc := 28) (ci := 6) (C := RX6) (T := TX6) (N := 8) hx hb hts inX6 hown hK hP 1 rfl rfl 7 (by decide) fl69 (fun _ h9 => h9) rfl dX8_setBy_28 ?_
    refine lv_iload_n (pc := 31) hx hb dX8_setBy_31 rfl (lv_at hl 2 rfl) ?_
    refine lv_iload_n (pc := 32) hx hb dX8_setBy_32 rfl (lv_at hl 3 rfl) ?_
    refine lv_iload_n (pc := 33) hx hb dX8_setBy_33 rfl (lv_at hl 4 rfl) ?_
    obtain ⟨r_2, hC2, hF⟩ := ob1_e hF
    refine zVr (pc := 34) (As := [.ref sra, .int p1, .int p2, .int p3]) (rest := []) E (tX6_setOfKind l D cI cZ cM cS so sca sna sla sra sra qs sn sl sfin swk scols snear slds qc qf p1 p2 p3 hC2) 4 gX8_setBy_X6_setOfKind rfl rfl rfl (by decide +kernel) ⟨Nat.le_of_ble_eq_true rfl, Nat.le_of_ble_eq_true rfl⟩ hK hP [1, 2, 3, 4, 5, 6] rfl 0 6 rfl rfl rfl rfl hl.1 rfl (Nat.le_of_ble_eq_true rfl) dX8_setBy_34 ⟨Nat.zero_le _, Nat.zero_le _⟩ ?_
    cases hF
    exact hRet _ _ rfl dX8_setBy_37
  · have hF := oif_f hF hc
    refine lv_iload (pc := 15) hx hb dX8_setBy_15 (lv_at hl 0 rfl) ?_
    refine lv_goto (pc := 17) (tgt := 37) hx hb dX8_setBy_17 (by decide) ?_
    cases hF
    exact hRet _ _ rfl dX8_setBy_37
def fX8_alike (p1 : Int32) (p2 : Int32) (p3 : Int32) (sn : Int32) (sl : Int32) (sfin : Int32) (swk : Int32) (scols : (Nat → Int32)) (snear : (Nat → Int32)) (slds : (Nat → Int32)) (bc : Int32) (bf : (Nat → Int32)) (zc : Int32) (zf : (Nat → Int32)) : Option (Int32 × Int32 × (Nat → Int32) × Int32 × (Nat → Int32)) := (ob1 (fX6_hasItem p1 sn sl sfin swk) (fun r_1 => (if r_1 = (0 : Int32) then (some ((-1000000001 : Int32), bc, bf, zc, zf)) else (ob1 (fX6_hasItem p2 sn sl sfin swk) (fun r_2 => (if r_2 = (0 : Int32) then (some ((-1000000001 : Int32), bc, bf, zc, zf)) else (ob1 (fX8_isRefinedKind p3) (fun r_3 => (if r_3 = (0 : Int32) then (some ((-1000000002 : Int32), bc, bf, zc, zf)) else (ob4 (fX8_refineAside p3 sn sl sfin swk scols snear slds bc bf zc zf) (fun bc_1 bf_1 zc_1 zf_1 => (ob1 (fX5_placeOf p1 zc_1 zf_1) (fun r_4 => (ob1 (fX5_placeOf p2 zc_1 zf_1) (fun r_5 => (if r_4 = r_5 then (some ((1 : Int32), bc_1, bf_1, zc_1, zf_1)) else (some ((0 : Int32), bc_1, bf_1, zc_1, zf_1))))))))))))))))))
abbrev wX8_alike (cI cZ cM cS : ClassId) (xo so ho ko ia fo wo zo dr sca sna sla sra bo bs zs : Nat) (sn : Int32) (sl : Int32) (sfin : Int32) (swk : Int32) (scols : (Nat → Int32)) (snear : (Nat → Int32)) (slds : (Nat → Int32)) (bc : Int32) (bf : (Nat → Int32)) (zc : Int32) (zf : (Nat → Int32)) : va_W := [(xo, .inr (8, [.ref so, .ref ho, .ref ko, .ref ia, .ref fo, .ref wo, .ref zo, .ref dr])), (so, .inr (6, [.int sn, .int sl, .int sfin, .int swk, .ref sca, .ref sna, .ref sla, .ref sra])), (sca, .inl (cI, 12, .inl scols)), (sna, .inl (cI, 12, .inl snear)), (sla, .inl (cI, 36, .inl slds)), (fo, .inr (4, [.ref bo])), (bo, .inr (5, [.ref bs, .int bc])), (bs, .inl (cI, 12, .inl bf)), (zo, .inr (5, [.ref zs, .int zc])), (zs, .inl (cI, 12, .inl zf))]
set_option maxHeartbeats 4000000 in
set_option maxRecDepth 100000 in
theorem tX8_alike (l : Launch) (D : va_G) (cI cZ cM cS : ClassId) (xo so ho ko ia fo wo zo dr sca sna sla sra bo bs zs : Nat) (sn : Int32) (sl : Int32) (sfin : Int32) (swk : Int32) (scols : (Nat → Int32)) (snear : (Nat → Int32)) (slds : (Nat → Int32)) (bc : Int32) (bf : (Nat → Int32)) (zc : Int32) (zf : (Nat → Int32)) (p1 : Int32) (p2 : Int32) (p3 : Int32) {r : Int32} {bc' : Int32} {bf' : (Nat → Int32)} {zc' : Int32} {zf' : (Nat → Int32)} (hF : fX8_alike p1 p2 p3 sn sl sfin swk scols snear slds bc bf zc zf = some (r, bc', bf', zc', zf')) : zCW l yX8_alike wsX8_alike (zRm 7 160) D (zTy cI cZ cM cS) [.ref xo, .int p1, .int p2, .int p3] (wX8_alike cI cZ cM cS xo so ho ko ia fo wo zo dr sca sna sla sra bo bs zs sn sl sfin swk scols snear slds bc bf zc zf) (wX8_alike cI cZ cM cS xo so ho ko ia fo wo zo dr sca sna sla sra bo bs zs sn sl sfin swk scols snear slds bc' bf' zc' zf') (some (.int r)) := by
  unfold fX8_alike at hF
  refine zCW_ofi (cc := cX8_alike) (maxL := 4) (own := RX8) (by decide) rfl rfl (Nat.le_of_ble_eq_true rfl) (fun p e s m args below meth c Q ls A E hA hK hP hD hRet hS hl => ?_)
  refine zgen (fun H locs hP hS => ?_) hP hS
  have hl : lv_has ls 4 [(0, .ref xo), (1, .int p1), (2, .int p2), (3, .int p3)] := hl
  obtain ⟨hx, hb, hml, hown, hts⟩ := id E
  have inX8 : ∀ w ∈ u_ws RX8 TX8 8, w ∈ wsX8_alike := by decide +kernel
  have fl10 := hts (.fieldLink RX8 10 "SplitClasses" "now" "LSplitClasses$State;") (by decide +kernel)
  have fl54 := hts (.fieldLink RX8 54 "SplitClasses" "aside" "LSplitClasses$Row;") (by decide +kernel)
  have cn113 := hts (.constant RX8 113 (-1000000002)) (by decide +kernel)
  have cn118 := hts (.constant RX8 118 (-1000000001)) (by decide +kernel)
  refine lv_aload_n (pc := 0) hx hb dX8_alike_0 rfl (lv_at hl 0 rfl) ?_
  refine va_get (pc := 1) (ci := 8) (C := RX8) (T := TX8) (N := 8) hx hb hts inX8 hown hK hP 0 rfl rfl 0 (by decide) fl10 (fun _ h9 => h9) rfl dX8_alike_1 ?_
  refine lv_iload_n (pc := 4) hx hb dX8_alike_4 rfl (lv_at hl 1 rfl) ?_
  obtain ⟨r_1, hC1, hF⟩ := ob1_e hF
  refine zVr (pc := 5) (As := [.int p1]) (rest := []) E (tX6_hasItem l D cI cZ cM cS so sca sna sla sra sn sl sfin swk p1 hC1) 1 gX8_alike_X6_hasItem rfl rfl rfl (by decide +kernel) ⟨Nat.le_of_ble_eq_true rfl, Nat.le_of_ble_eq_true rfl⟩ hK hP [1] rfl 0 6 rfl rfl rfl rfl hl.1 rfl (Nat.le_of_ble_eq_true rfl) dX8_alike_5 ⟨Nat.zero_le _, Nat.zero_le _⟩ ?_
  refine lv_if_eq (pc := 8) (tgt := 22) hx hb dX8_alike_8 (by decide) (fun hc => ?_) (fun hc => ?_)
  · have hF := oif_t hF hc
    refine lv_ldc (v := (-1000000001 : Int32)) (pc := 22) hx hb hown cn118 dX8_alike_22 ?_
    cases hF
    exact hRet _ _ _ _ rfl dX8_alike_24 hP hD hS
  · have hF := oif_f hF hc
    refine lv_aload_n (pc := 11) hx hb dX8_alike_11 rfl (lv_at hl 0 rfl) ?_
    refine va_get (pc := 12) (ci := 8) (C := RX8) (T := TX8) (N := 8) hx hb hts inX8 hown hK hP 0 rfl rfl 0 (by decide) fl10 (fun _ h9 => h9) rfl dX8_alike_12 ?_
    refine lv_iload_n (pc := 15) hx hb dX8_alike_15 rfl (lv_at hl 2 rfl) ?_
    obtain ⟨r_2, hC2, hF⟩ := ob1_e hF
    refine zVr (pc := 16) (As := [.int p2]) (rest := []) E (tX6_hasItem l D cI cZ cM cS so sca sna sla sra sn sl sfin swk p2 hC2) 1 gX8_alike_X6_hasItem rfl rfl rfl (by decide +kernel) ⟨Nat.le_of_ble_eq_true rfl, Nat.le_of_ble_eq_true rfl⟩ hK hP [1] rfl 0 6 rfl rfl rfl rfl hl.1 rfl (Nat.le_of_ble_eq_true rfl) dX8_alike_16 ⟨Nat.zero_le _, Nat.zero_le _⟩ ?_
    refine lv_if_ne (pc := 19) (tgt := 25) hx hb dX8_alike_19 (by decide) (fun hc => ?_) (fun hc => ?_)
    · have hF := oif_f hF hc
      refine lv_iload_n (pc := 25) hx hb dX8_alike_25 rfl (lv_at hl 3 rfl) ?_
      obtain ⟨r_3, hC3, hF⟩ := ob1_e hF
      refine zSr (pc := 26) (As := [.int p3]) (rest := []) E (tX8_isRefinedKind l D cI cZ cM cS p3 hC3) 1 gX8_alike_X8_isRefinedKind rfl rfl rfl (by decide +kernel) ⟨Nat.le_of_ble_eq_true rfl, Nat.le_of_ble_eq_true rfl⟩ hK hP [] rfl rfl hl.1 rfl (Nat.le_of_ble_eq_true rfl) dX8_alike_26 ⟨Nat.zero_le _, Nat.zero_le _⟩ ?_
      refine lv_if_ne (pc := 29) (tgt := 35) hx hb dX8_alike_29 (by decide) (fun hc => ?_) (fun hc => ?_)
      · have hF := oif_f hF hc
        refine lv_aload_n (pc := 35) hx hb dX8_alike_35 rfl (lv_at hl 0 rfl) ?_
        refine lv_iload_n (pc := 36) hx hb dX8_alike_36 rfl (lv_at hl 3 rfl) ?_
        obtain ⟨bc_1, bf_1, zc_1, zf_1, hC4, hF⟩ := ob4_e hF
        refine zV (pc := 37) (As := [.int p3]) (rest := []) (wr := []) (w2 := (wX8_alike cI cZ cM cS xo so ho ko ia fo wo zo dr sca sna sla sra bo bs zs sn sl sfin swk scols snear slds bc_1 bf_1 zc_1 zf_1)) E (tX8_refineAside l D cI cZ cM cS xo so ho ko ia fo wo zo dr sca sna sla sra bo bs zs sn sl sfin swk scols snear slds bc bf zc zf p3 hC4) 1 gX8_alike_X8_refineAside rfl rfl rfl (by decide +kernel) ⟨Nat.le_of_ble_eq_true rfl, Nat.le_of_ble_eq_true rfl⟩ hK hP hD hS hA [0, 1, 2, 3, 4, 5, 6, 7, 8, 9] [] [0, 1, 2, 3, 4, 5, 6, 7, 8, 9] (by decide) rfl rfl (by decide) (by decide) rfl (by decide) 0 8 rfl rfl rfl rfl hl.1 rfl (Nat.le_of_ble_eq_true rfl) dX8_alike_37 ⟨Nat.zero_le _, Nat.zero_le _⟩ (fun H locs hP hD hS => ?_)
        refine W.eq (g2 := F0 m 40 ls []) rfl ?_
        refine lv_aload_n (pc := 40) hx hb dX8_alike_40 rfl (lv_at hl 0 rfl) ?_
        refine va_get (pc := 41) (ci := 8) (C := RX8) (T := TX8) (N := 8) hx hb hts inX8 hown hK hP 0 rfl rfl 6 (by decide) fl54 (fun _ h9 => h9) rfl dX8_alike_41 ?_
        refine lv_iload_n (pc := 44) hx hb dX8_alike_44 rfl (lv_at hl 1 rfl) ?_
        obtain ⟨r_4, hC5, hF⟩ := ob1_e hF
        refine zVr (pc := 45) (As := [.int p1]) (rest := []) E (tX5_placeOf l D cI cZ cM cS zo zs zc_1 zf_1 p1 hC5) 1 gX8_alike_X5_placeOf rfl rfl rfl (by decide +kernel) ⟨Nat.le_of_ble_eq_true rfl, Nat.le_of_ble_eq_true rfl⟩ hK hP [8, 9] rfl 0 5 rfl rfl rfl rfl hl.1 rfl (Nat.le_of_ble_eq_true rfl) dX8_alike_45 ⟨Nat.zero_le _, Nat.zero_le _⟩ ?_
        refine lv_aload_n (pc := 48) hx hb dX8_alike_48 rfl (lv_at hl 0 rfl) ?_
        refine va_get (pc := 49) (ci := 8) (C := RX8) (T := TX8) (N := 8) hx hb hts inX8 hown hK hP 0 rfl rfl 6 (by decide) fl54 (fun _ h9 => h9) rfl dX8_alike_49 ?_
        refine lv_iload_n (pc := 52) hx hb dX8_alike_52 rfl (lv_at hl 2 rfl) ?_
        obtain ⟨r_5, hC6, hF⟩ := ob1_e hF
        refine zVr (pc := 53) (As := [.int p2]) (rest := [.int r_4]) E (tX5_placeOf l D cI cZ cM cS zo zs zc_1 zf_1 p2 hC6) 1 gX8_alike_X5_placeOf rfl rfl rfl (by decide +kernel) ⟨Nat.le_of_ble_eq_true rfl, Nat.le_of_ble_eq_true rfl⟩ hK hP [8, 9] rfl 0 5 rfl rfl rfl rfl hl.1 rfl (Nat.le_of_ble_eq_true rfl) dX8_alike_53 ⟨Nat.zero_le _, Nat.zero_le _⟩ ?_
        refine lv_icmp_ne (pc := 56) (tgt := 63) hx hb dX8_alike_56 (by decide) (fun hc => ?_) (fun hc => ?_)
        · have hF := oif_f hF hc
          refine lv_iconst (v := (0 : Int32)) (pc := 63) hx hb dX8_alike_63 (by decide) ?_
          cases hF
          exact hRet _ _ _ _ rfl dX8_alike_64 hP hD hS
        · have hF := oif_t hF hc
          refine lv_iconst (v := (1 : Int32)) (pc := 59) hx hb dX8_alike_59 (by decide) ?_
          refine lv_goto (pc := 60) (tgt := 64) hx hb dX8_alike_60 (by decide) ?_
          cases hF
          exact hRet _ _ _ _ rfl dX8_alike_64 hP hD hS
      · have hF := oif_t hF hc
        refine lv_ldc (v := (-1000000002 : Int32)) (pc := 32) hx hb hown cn113 dX8_alike_32 ?_
        cases hF
        exact hRet _ _ _ _ rfl dX8_alike_34 hP hD hS
    · have hF := oif_t hF hc
      refine lv_ldc (v := (-1000000001 : Int32)) (pc := 22) hx hb hown cn118 dX8_alike_22 ?_
      cases hF
      exact hRet _ _ _ _ rfl dX8_alike_24 hP hD hS
def fX8_apart (p1 : Int32) (p2 : Int32) (sn : Int32) (sl : Int32) (sfin : Int32) (swk : Int32) (slds : (Nat → Int32)) (bc : Int32) (bf : (Nat → Int32)) (zc : Int32) (zf : (Nat → Int32)) : Option (Int32 × Int32 × (Nat → Int32) × Int32 × (Nat → Int32)) := (ob1 (fX6_hasItem p1 sn sl sfin swk) (fun r_1 => (if r_1 = (0 : Int32) then (some ((-1000000001 : Int32), bc, bf, zc, zf)) else (ob1 (fX6_hasItem p2 sn sl sfin swk) (fun r_2 => (if r_2 = (0 : Int32) then (some ((-1000000001 : Int32), bc, bf, zc, zf)) else (ob5 (fX4_shortestWordApart p1 p2 bc bf sn sl sfin swk slds zc zf) (fun r_3 bc_1 bf_1 zc_1 zf_1 => (some (r_3, bc_1, bf_1, zc_1, zf_1))))))))))
abbrev wX8_apart (cI cZ cM cS : ClassId) (xo so ho ko ia fo wo zo dr sca sna sla sra bo bs zs : Nat) (sn : Int32) (sl : Int32) (sfin : Int32) (swk : Int32) (slds : (Nat → Int32)) (bc : Int32) (bf : (Nat → Int32)) (zc : Int32) (zf : (Nat → Int32)) : va_W := [(xo, .inr (8, [.ref so, .ref ho, .ref ko, .ref ia, .ref fo, .ref wo, .ref zo, .ref dr])), (so, .inr (6, [.int sn, .int sl, .int sfin, .int swk, .ref sca, .ref sna, .ref sla, .ref sra])), (sla, .inl (cI, 36, .inl slds)), (fo, .inr (4, [.ref bo])), (bo, .inr (5, [.ref bs, .int bc])), (bs, .inl (cI, 12, .inl bf)), (zo, .inr (5, [.ref zs, .int zc])), (zs, .inl (cI, 12, .inl zf))]
set_option maxHeartbeats 4000000 in
set_option maxRecDepth 100000 in
theorem tX8_apart (l : Launch) (D : va_G) (cI cZ cM cS : ClassId) (xo so ho ko ia fo wo zo dr sca sna sla sra bo bs zs : Nat) (sn : Int32) (sl : Int32) (sfin : Int32) (swk : Int32) (slds : (Nat → Int32)) (bc : Int32) (bf : (Nat → Int32)) (zc : Int32) (zf : (Nat → Int32)) (p1 : Int32) (p2 : Int32) {r : Int32} {bc' : Int32} {bf' : (Nat → Int32)} {zc' : Int32} {zf' : (Nat → Int32)} (hF : fX8_apart p1 p2 sn sl sfin swk slds bc bf zc zf = some (r, bc', bf', zc', zf')) : zCW l yX8_apart wsX8_apart (zRm 5 116) D (zTy cI cZ cM cS) [.ref xo, .int p1, .int p2] (wX8_apart cI cZ cM cS xo so ho ko ia fo wo zo dr sca sna sla sra bo bs zs sn sl sfin swk slds bc bf zc zf) (wX8_apart cI cZ cM cS xo so ho ko ia fo wo zo dr sca sna sla sra bo bs zs sn sl sfin swk slds bc' bf' zc' zf') (some (.int r)) := by
  unfold fX8_apart at hF
  refine zCW_ofi (cc := cX8_apart) (maxL := 3) (own := RX8) (by decide) rfl rfl (Nat.le_of_ble_eq_true rfl) (fun p e s m args below meth c Q ls A E hA hK hP hD hRet hS hl => ?_)
  refine zgen (fun H locs hP hS => ?_) hP hS
  have hl : lv_has ls 3 [(0, .ref xo), (1, .int p1), (2, .int p2)] := hl
  obtain ⟨hx, hb, hml, hown, hts⟩ := id E
  have inX8 : ∀ w ∈ u_ws RX8 TX8 8, w ∈ wsX8_apart := by decide +kernel
  have fl10 := hts (.fieldLink RX8 10 "SplitClasses" "now" "LSplitClasses$State;") (by decide +kernel)
  have fl40 := hts (.fieldLink RX8 40 "SplitClasses" "refiner" "LSplitClasses$Refiner;") (by decide +kernel)
  have fl54 := hts (.fieldLink RX8 54 "SplitClasses" "aside" "LSplitClasses$Row;") (by decide +kernel)
  have cn118 := hts (.constant RX8 118 (-1000000001)) (by decide +kernel)
  refine lv_aload_n (pc := 0) hx hb dX8_apart_0 rfl (lv_at hl 0 rfl) ?_
  refine va_get (pc := 1) (ci := 8) (C := RX8) (T := TX8) (N := 8) hx hb hts inX8 hown hK hP 0 rfl rfl 0 (by decide) fl10 (fun _ h9 => h9) rfl dX8_apart_1 ?_
  refine lv_iload_n (pc := 4) hx hb dX8_apart_4 rfl (lv_at hl 1 rfl) ?_
  obtain ⟨r_1, hC1, hF⟩ := ob1_e hF
  refine zVr (pc := 5) (As := [.int p1]) (rest := []) E (tX6_hasItem l D cI cZ cM cS so sca sna sla sra sn sl sfin swk p1 hC1) 1 gX8_apart_X6_hasItem rfl rfl rfl (by decide +kernel) ⟨Nat.le_of_ble_eq_true rfl, Nat.le_of_ble_eq_true rfl⟩ hK hP [1] rfl 0 6 rfl rfl rfl rfl hl.1 rfl (Nat.le_of_ble_eq_true rfl) dX8_apart_5 ⟨Nat.zero_le _, Nat.zero_le _⟩ ?_
  refine lv_if_eq (pc := 8) (tgt := 22) hx hb dX8_apart_8 (by decide) (fun hc => ?_) (fun hc => ?_)
  · have hF := oif_t hF hc
    refine lv_ldc (v := (-1000000001 : Int32)) (pc := 22) hx hb hown cn118 dX8_apart_22 ?_
    cases hF
    exact hRet _ _ _ _ rfl dX8_apart_24 hP hD hS
  · have hF := oif_f hF hc
    refine lv_aload_n (pc := 11) hx hb dX8_apart_11 rfl (lv_at hl 0 rfl) ?_
    refine va_get (pc := 12) (ci := 8) (C := RX8) (T := TX8) (N := 8) hx hb hts inX8 hown hK hP 0 rfl rfl 0 (by decide) fl10 (fun _ h9 => h9) rfl dX8_apart_12 ?_
    refine lv_iload_n (pc := 15) hx hb dX8_apart_15 rfl (lv_at hl 2 rfl) ?_
    obtain ⟨r_2, hC2, hF⟩ := ob1_e hF
    refine zVr (pc := 16) (As := [.int p2]) (rest := []) E (tX6_hasItem l D cI cZ cM cS so sca sna sla sra sn sl sfin swk p2 hC2) 1 gX8_apart_X6_hasItem rfl rfl rfl (by decide +kernel) ⟨Nat.le_of_ble_eq_true rfl, Nat.le_of_ble_eq_true rfl⟩ hK hP [1] rfl 0 6 rfl rfl rfl rfl hl.1 rfl (Nat.le_of_ble_eq_true rfl) dX8_apart_16 ⟨Nat.zero_le _, Nat.zero_le _⟩ ?_
    refine lv_if_ne (pc := 19) (tgt := 25) hx hb dX8_apart_19 (by decide) (fun hc => ?_) (fun hc => ?_)
    · have hF := oif_f hF hc
      refine lv_aload_n (pc := 25) hx hb dX8_apart_25 rfl (lv_at hl 0 rfl) ?_
      refine va_get (pc := 26) (ci := 8) (C := RX8) (T := TX8) (N := 8) hx hb hts inX8 hown hK hP 0 rfl rfl 4 (by decide) fl40 (fun _ h9 => h9) rfl dX8_apart_26 ?_
      refine lv_aload_n (pc := 29) hx hb dX8_apart_29 rfl (lv_at hl 0 rfl) ?_
      refine va_get (pc := 30) (ci := 8) (C := RX8) (T := TX8) (N := 8) hx hb hts inX8 hown hK hP 0 rfl rfl 0 (by decide) fl10 (fun _ h9 => h9) rfl dX8_apart_30 ?_
      refine lv_aload_n (pc := 33) hx hb dX8_apart_33 rfl (lv_at hl 0 rfl) ?_
      refine va_get (pc := 34) (ci := 8) (C := RX8) (T := TX8) (N := 8) hx hb hts inX8 hown hK hP 0 rfl rfl 6 (by decide) fl54 (fun _ h9 => h9) rfl dX8_apart_34 ?_
      refine lv_iload_n (pc := 37) hx hb dX8_apart_37 rfl (lv_at hl 1 rfl) ?_
      refine lv_iload_n (pc := 38) hx hb dX8_apart_38 rfl (lv_at hl 2 rfl) ?_
      obtain ⟨r_3, bc_1, bf_1, zc_1, zf_1, hC3, hF⟩ := ob5_e hF
      refine zV (pc := 39) (As := [.ref so, .ref zo, .int p1, .int p2]) (rest := []) (wr := [(xo, .inr (8, [.ref so, .ref ho, .ref ko, .ref ia, .ref fo, .ref wo, .ref zo, .ref dr]))]) (w2 := (wX8_apart cI cZ cM cS xo so ho ko ia fo wo zo dr sca sna sla sra bo bs zs sn sl sfin swk slds bc_1 bf_1 zc_1 zf_1)) E (tX4_shortestWordApart l D cI cZ cM cS fo bo bs so sca sna sla sra zo zs bc bf sn sl sfin swk slds zc zf p1 p2 hC3) 4 gX8_apart_X4_shortestWordApart rfl rfl rfl (by decide +kernel) ⟨Nat.le_of_ble_eq_true rfl, Nat.le_of_ble_eq_true rfl⟩ hK hP hD hS hA [3, 4, 5, 1, 2, 6, 7] [0] [0, 4, 5, 1, 2, 3, 6, 7] (by decide) rfl rfl (by decide) (by decide) rfl (by decide) 0 4 rfl rfl rfl rfl hl.1 rfl (Nat.le_of_ble_eq_true rfl) dX8_apart_39 ⟨Nat.zero_le _, Nat.zero_le _⟩ (fun H locs hP hD hS => ?_)
      refine W.eq (g2 := F0 m 42 ls [.int r_3]) rfl ?_
      cases hF
      exact hRet _ _ _ _ rfl dX8_apart_42 hP hD hS
    · have hF := oif_t hF hc
      refine lv_ldc (v := (-1000000001 : Int32)) (pc := 22) hx hb hown cn118 dX8_apart_22 ?_
      cases hF
      exact hRet _ _ _ _ rfl dX8_apart_24 hP hD hS
def fX8_search (p1 : Int32) (p2 : Int32) (sn : Int32) (sl : Int32) (sfin : Int32) (swk : Int32) (snear : (Nat → Int32)) (ord : (Nat → Int32)) (earl : (Nat → Int32)) (kc : Int32) (kf : (Nat → Int32)) : Option (Int32 × (Nat → Int32) × (Nat → Int32) × Int32 × (Nat → Int32)) := (ob1 (fX6_hasItem p1 sn sl sfin swk) (fun r_1 => (if r_1 = (0 : Int32) then (some ((-1000000001 : Int32), ord, earl, kc, kf)) else (ob1 (fX6_hasItem p2 sn sl sfin swk) (fun r_2 => (if r_2 = (0 : Int32) then (some ((-1000000001 : Int32), ord, earl, kc, kf)) else (ob4 (fX7_walkFrom p1 ord earl kc kf sn sl sfin swk snear) (fun ord_1 earl_1 kc_1 kf_1 => (ogd p2 12 (some ((ord_1 (Int32.toNatClampNeg p2)), ord_1, earl_1, kc_1, kf_1)))))))))))
abbrev wX8_search (cI cZ cM cS : ClassId) (xo so ho ko ia fo wo zo dr sca sna sla sra wd wr we ks : Nat) (sn : Int32) (sl : Int32) (sfin : Int32) (swk : Int32) (snear : (Nat → Int32)) (ord : (Nat → Int32)) (earl : (Nat → Int32)) (kc : Int32) (kf : (Nat → Int32)) : va_W := [(xo, .inr (8, [.ref so, .ref ho, .ref ko, .ref ia, .ref fo, .ref wo, .ref zo, .ref dr])), (so, .inr (6, [.int sn, .int sl, .int sfin, .int swk, .ref sca, .ref sna, .ref sla, .ref sra])), (sna, .inl (cI, 12, .inl snear)), (wo, .inr (7, [.ref wd, .ref wr, .ref we])), (wd, .inl (cI, 12, .inl ord)), (we, .inl (cI, 12, .inl earl)), (wr, .inr (5, [.ref ks, .int kc])), (ks, .inl (cI, 12, .inl kf))]
set_option maxHeartbeats 4000000 in
set_option maxRecDepth 100000 in
theorem tX8_search (l : Launch) (D : va_G) (cI cZ cM cS : ClassId) (xo so ho ko ia fo wo zo dr sca sna sla sra wd wr we ks : Nat) (sn : Int32) (sl : Int32) (sfin : Int32) (swk : Int32) (snear : (Nat → Int32)) (ord : (Nat → Int32)) (earl : (Nat → Int32)) (kc : Int32) (kf : (Nat → Int32)) (p1 : Int32) (p2 : Int32) {r : Int32} {ord' : (Nat → Int32)} {earl' : (Nat → Int32)} {kc' : Int32} {kf' : (Nat → Int32)} (hF : fX8_search p1 p2 sn sl sfin swk snear ord earl kc kf = some (r, ord', earl', kc', kf')) : zCW l yX8_search wsX8_search (zRm 4 87) D (zTy cI cZ cM cS) [.ref xo, .int p1, .int p2] (wX8_search cI cZ cM cS xo so ho ko ia fo wo zo dr sca sna sla sra wd wr we ks sn sl sfin swk snear ord earl kc kf) (wX8_search cI cZ cM cS xo so ho ko ia fo wo zo dr sca sna sla sra wd wr we ks sn sl sfin swk snear ord' earl' kc' kf') (some (.int r)) := by
  unfold fX8_search at hF
  refine zCW_ofi (cc := cX8_search) (maxL := 3) (own := RX8) (by decide) rfl rfl (Nat.le_of_ble_eq_true rfl) (fun p e s m args below meth c Q ls A E hA hK hP hD hRet hS hl => ?_)
  refine zgen (fun H locs hP hS => ?_) hP hS
  have hl : lv_has ls 3 [(0, .ref xo), (1, .int p1), (2, .int p2)] := hl
  obtain ⟨hx, hb, hml, hown, hts⟩ := id E
  have inX7 : ∀ w ∈ u_ws RX7 TX7 3, w ∈ wsX8_search := by decide +kernel
  have inX8 : ∀ w ∈ u_ws RX8 TX8 8, w ∈ wsX8_search := by decide +kernel
  have fl10 := hts (.fieldLink RX8 10 "SplitClasses" "now" "LSplitClasses$State;") (by decide +kernel)
  have fl163 := hts (.fieldLink RX8 163 "SplitClasses$Walk" "order" "[I") (by decide +kernel)
  have fl47 := hts (.fieldLink RX8 47 "SplitClasses" "walk" "LSplitClasses$Walk;") (by decide +kernel)
  have cn118 := hts (.constant RX8 118 (-1000000001)) (by decide +kernel)
  refine lv_aload_n (pc := 0) hx hb dX8_search_0 rfl (lv_at hl 0 rfl) ?_
  refine va_get (pc := 1) (ci := 8) (C := RX8) (T := TX8) (N := 8) hx hb hts inX8 hown hK hP 0 rfl rfl 0 (by decide) fl10 (fun _ h9 => h9) rfl dX8_search_1 ?_
  refine lv_iload_n (pc := 4) hx hb dX8_search_4 rfl (lv_at hl 1 rfl) ?_
  obtain ⟨r_1, hC1, hF⟩ := ob1_e hF
  refine zVr (pc := 5) (As := [.int p1]) (rest := []) E (tX6_hasItem l D cI cZ cM cS so sca sna sla sra sn sl sfin swk p1 hC1) 1 gX8_search_X6_hasItem rfl rfl rfl (by decide +kernel) ⟨Nat.le_of_ble_eq_true rfl, Nat.le_of_ble_eq_true rfl⟩ hK hP [1] rfl 0 6 rfl rfl rfl rfl hl.1 rfl (Nat.le_of_ble_eq_true rfl) dX8_search_5 ⟨Nat.zero_le _, Nat.zero_le _⟩ ?_
  refine lv_if_eq (pc := 8) (tgt := 22) hx hb dX8_search_8 (by decide) (fun hc => ?_) (fun hc => ?_)
  · have hF := oif_t hF hc
    refine lv_ldc (v := (-1000000001 : Int32)) (pc := 22) hx hb hown cn118 dX8_search_22 ?_
    cases hF
    exact hRet _ _ _ _ rfl dX8_search_24 hP hD hS
  · have hF := oif_f hF hc
    refine lv_aload_n (pc := 11) hx hb dX8_search_11 rfl (lv_at hl 0 rfl) ?_
    refine va_get (pc := 12) (ci := 8) (C := RX8) (T := TX8) (N := 8) hx hb hts inX8 hown hK hP 0 rfl rfl 0 (by decide) fl10 (fun _ h9 => h9) rfl dX8_search_12 ?_
    refine lv_iload_n (pc := 15) hx hb dX8_search_15 rfl (lv_at hl 2 rfl) ?_
    obtain ⟨r_2, hC2, hF⟩ := ob1_e hF
    refine zVr (pc := 16) (As := [.int p2]) (rest := []) E (tX6_hasItem l D cI cZ cM cS so sca sna sla sra sn sl sfin swk p2 hC2) 1 gX8_search_X6_hasItem rfl rfl rfl (by decide +kernel) ⟨Nat.le_of_ble_eq_true rfl, Nat.le_of_ble_eq_true rfl⟩ hK hP [1] rfl 0 6 rfl rfl rfl rfl hl.1 rfl (Nat.le_of_ble_eq_true rfl) dX8_search_16 ⟨Nat.zero_le _, Nat.zero_le _⟩ ?_
    refine lv_if_ne (pc := 19) (tgt := 25) hx hb dX8_search_19 (by decide) (fun hc => ?_) (fun hc => ?_)
    · have hF := oif_f hF hc
      refine lv_aload_n (pc := 25) hx hb dX8_search_25 rfl (lv_at hl 0 rfl) ?_
      refine va_get (pc := 26) (ci := 8) (C := RX8) (T := TX8) (N := 8) hx hb hts inX8 hown hK hP 0 rfl rfl 5 (by decide) fl47 (fun _ h9 => h9) rfl dX8_search_26 ?_
      refine lv_aload_n (pc := 29) hx hb dX8_search_29 rfl (lv_at hl 0 rfl) ?_
      refine va_get (pc := 30) (ci := 8) (C := RX8) (T := TX8) (N := 8) hx hb hts inX8 hown hK hP 0 rfl rfl 0 (by decide) fl10 (fun _ h9 => h9) rfl dX8_search_30 ?_
      refine lv_iload_n (pc := 33) hx hb dX8_search_33 rfl (lv_at hl 1 rfl) ?_
      obtain ⟨ord_1, earl_1, kc_1, kf_1, hC3, hF⟩ := ob4_e hF
      refine zV (pc := 34) (As := [.ref so, .int p1]) (rest := []) (wr := [(xo, .inr (8, [.ref so, .ref ho, .ref ko, .ref ia, .ref fo, .ref wo, .ref zo, .ref dr]))]) (w2 := (wX8_search cI cZ cM cS xo so ho ko ia fo wo zo dr sca sna sla sra wd wr we ks sn sl sfin swk snear ord_1 earl_1 kc_1 kf_1)) E (tX7_walkFrom l D cI cZ cM cS wo wd wr we ks so sca sna sla sra ord earl kc kf sn sl sfin swk snear p1 hC3) 2 gX8_search_X7_walkFrom rfl rfl rfl (by decide +kernel) ⟨Nat.le_of_ble_eq_true rfl, Nat.le_of_ble_eq_true rfl⟩ hK hP hD hS hA [3, 4, 5, 6, 7, 1, 2] [0] [0, 6, 7, 1, 2, 3, 4, 5] (by decide) rfl rfl (by decide) (by decide) rfl (by decide) 0 7 rfl rfl rfl rfl hl.1 rfl (Nat.le_of_ble_eq_true rfl) dX8_search_34 ⟨Nat.zero_le _, Nat.zero_le _⟩ (fun H locs hP hD hS => ?_)
      refine W.eq (g2 := F0 m 37 ls []) rfl ?_
      refine lv_aload_n (pc := 37) hx hb dX8_search_37 rfl (lv_at hl 0 rfl) ?_
      refine va_get (pc := 38) (ci := 8) (C := RX8) (T := TX8) (N := 8) hx hb hts inX8 hown hK hP 0 rfl rfl 5 (by decide) fl47 (fun _ h9 => h9) rfl dX8_search_38 ?_
      refine va_get (pc := 41) (ci := 7) (C := RX7) (T := TX7) (N := 3) hx hb hts inX7 hown hK hP 3 rfl rfl 0 (by decide) fl163 (fun _ h9 => h9) rfl dX8_search_41 ?_
      refine lv_iload_n (pc := 44) hx hb dX8_search_44 rfl (lv_at hl 2 rfl) ?_
      obtain ⟨hg4, hF⟩ := ogd_e hF
      refine va_iald (pc := 45) hx hb hK hP 4 0 rfl rfl hg4 dX8_search_45 ?_
      cases hF
      exact hRet _ _ _ _ rfl dX8_search_46 hP hD hS
    · have hF := oif_t hF hc
      refine lv_ldc (v := (-1000000001 : Int32)) (pc := 22) hx hb hown cn118 dX8_search_22 ?_
      cases hF
      exact hRet _ _ _ _ rfl dX8_search_24 hP hD hS
