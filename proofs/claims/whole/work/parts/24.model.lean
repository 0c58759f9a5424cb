def fX9_told (p1 : Int32) (deeds : Int32) (sd : Int32) (ent : Int32) (st : (Nat → Int32)) (bits : (Nat → Int32)) (bcls : (Nat → Int32)) (nr : (Nat → Int32)) (ia : (Nat → Int32)) (inw : (Nat → Int32)) (asd : (Nat → Int32)) (sea : (Nat → Int32)) : Option (Int32 × (Nat → Int32) × (Nat → Int32) × (Nat → Int32) × (Nat → Int32) × (Nat → Int32)) := (if p1 = (0 : Int32) then (some ((st 0), nr, ia, inw, asd, sea)) else (if p1 = (1 : Int32) then (ob1 (fX9_classes (64 : Int32) deeds sd ent st) (fun r_1 => (some (r_1, nr, ia, inw, asd, sea)))) else (if p1 = (2 : Int32) then (some ((st 3), nr, ia, inw, asd, sea)) else (if p1 = (3 : Int32) then (ob1 (fX9_edgesNow deeds sd ent st) (fun r_2 => (some (r_2, nr, ia, inw, asd, sea)))) else (if p1 = (4 : Int32) then (some ((st 1), nr, ia, inw, asd, sea)) else (if p1 = (5 : Int32) then (some ((st 2), nr, ia, inw, asd, sea)) else (if p1 = (6 : Int32) ∨ p1 = (7 : Int32) ∨ p1 = (8 : Int32) ∨ p1 = (9 : Int32) ∨ p1 = (10 : Int32) then (ob5 (fX9_refinedMany (p1 - (6 : Int32)) deeds sd ent st nr ia inw asd) (fun r_3 nr_1 ia_1 inw_1 asd_1 => (some (r_3, nr_1, ia_1, inw_1, asd_1, sea)))) else (if p1 = (11 : Int32) then (ob4 (fX9_faultNow deeds sd ent st nr asd sea) (fun r_4 nr_2 asd_2 sea_1 => (some (r_4, nr_2, ia, inw, asd_2, sea_1)))) else (if p1 = (12 : Int32) then (ob4 (fX9_cliqueNow deeds sd ent st nr asd sea) (fun r_5 nr_3 asd_3 sea_2 => (some (r_5, nr_3, ia, inw, asd_3, sea_2)))) else (if p1 = (13 : Int32) then (some (ent, nr, ia, inw, asd, sea)) else (if p1 = (14 : Int32) then (ob1 (fX9_wrongNow deeds sd ent st bits bcls) (fun r_6 => (some (r_6, nr, ia, inw, asd, sea)))) else (if p1 = (15 : Int32) then (some (deeds, nr, ia, inw, asd, sea)) else (if p1 = (16 : Int32) then (some (sd, nr, ia, inw, asd, sea)) else (some ((-1000000002 : Int32), nr, ia, inw, asd, sea)))))))))))))))
abbrev wX9_told (cI cZ cM cS : ClassId) (mo mst mpa mim mik mbi mbk mnr mia min mas mpr mfa mme mse : Nat) (deeds : Int32) (sd : Int32) (ent : Int32) (st : (Nat → Int32)) (bits : (Nat → Int32)) (bcls : (Nat → Int32)) (nr : (Nat → Int32)) (ia : (Nat → Int32)) (inw : (Nat → Int32)) (asd : (Nat → Int32)) (sea : (Nat → Int32)) : va_W := [(mo, .inr (9, [.ref mst, .ref mpa, .int deeds, .ref mim, .ref mik, .int sd, .ref mbi, .ref mbk, .int ent, .ref mnr, .ref mia, .ref min, .ref mas, .ref mpr, .ref mfa, .ref mme, .ref mse])), (mst, .inl (cI, 76, .inl st)), (mbi, .inl (cI, 20, .inl bits)), (mbk, .inl (cI, 20, .inl bcls)), (mnr, .inl (cI, 12, .inl nr)), (mia, .inl (cZ, 144, .inl ia)), (min, .inl (cZ, 144, .inl inw)), (mas, .inl (cI, 12, .inl asd)), (mse, .inl (cI, 12, .inl sea))]
set_option maxHeartbeats 4000000 in
set_option maxRecDepth 100000 in
theorem tX9_told (l : Launch) (D : va_G) (cI cZ cM cS : ClassId) (mo mst mpa mim mik mbi mbk mnr mia min mas mpr mfa mme mse : Nat) (deeds : Int32) (sd : Int32) (ent : Int32) (st : (Nat → Int32)) (bits : (Nat → Int32)) (bcls : (Nat → Int32)) (nr : (Nat → Int32)) (ia : (Nat → Int32)) (inw : (Nat → Int32)) (asd : (Nat → Int32)) (sea : (Nat → Int32)) (p1 : Int32) {r : Int32} {nr' : (Nat → Int32)} {ia' : (Nat → Int32)} {inw' : (Nat → Int32)} {asd' : (Nat → Int32)} {sea' : (Nat → Int32)} (hF : fX9_told p1 deeds sd ent st bits bcls nr ia inw asd sea = some (r, nr', ia', inw', asd', sea')) : zCW l yX9_told wsX9_told (zRm 7 165) D (zTy cI cZ cM cS) [.ref mo, .int p1] (wX9_told cI cZ cM cS mo mst mpa mim mik mbi mbk mnr mia min mas mpr mfa mme mse deeds sd ent st bits bcls nr ia inw asd sea) (wX9_told cI cZ cM cS mo mst mpa mim mik mbi mbk mnr mia min mas mpr mfa mme mse deeds sd ent st bits bcls nr' ia' inw' asd' sea') (some (.int r)) := by
  unfold fX9_told at hF
  refine zCW_ofi (cc := cX9_told) (maxL := 2) (own := RX9) (by decide) rfl rfl (Nat.le_of_ble_eq_true rfl) (fun p e s m args below meth c Q ls A E hA hK hP hD hRet hS hl => ?_)
  refine zgen (fun H locs hP hS => ?_) hP hS
  have hl : lv_has ls 2 [(0, .ref mo), (1, .int p1)] := hl
  obtain ⟨hx, hb, hml, hown, hts⟩ := id E
  have inX9 : ∀ w ∈ u_ws RX9 TX9 17, w ∈ wsX9_told := by decide +kernel
  have fl143 := hts (.fieldLink RX9 143 "SplitClassesModel" "entries" "I") (by decide +kernel)
  have fl158 := hts (.fieldLink RX9 158 "SplitClassesModel" "seedNow" "I") (by decide +kernel)
  have fl61 := hts (.fieldLink RX9 61 "SplitClassesModel" "deeds" "I") (by decide +kernel)
  have fl7 := hts (.fieldLink RX9 7 "SplitClassesModel" "st" "[I") (by decide +kernel)
  have cn94 := hts (.constant RX9 94 (-1000000002)) (by decide +kernel)
  refine lv_iload_n (pc := 0) hx hb dX9_told_0 rfl (lv_at hl 1 rfl) ?_
  refine lv_topi (fun xs exs => ?_)
  by_cases hk10100 : p1 = (0 : Int32)
  · have hF := oif_t hF hk10100
    rw [hk10100] at exs
    rw [exs]
    refine lv_tableIn (pc := 1) (tgt := 84) hx hb dX9_told_1 (by decide) (by decide) rfl (by decide) ?_
    refine lv_aload_n (pc := 84) hx hb dX9_told_84 rfl (lv_at hl 0 rfl) ?_
    refine va_get (pc := 85) (ci := 9) (C := RX9) (T := TX9) (N := 17) hx hb hts inX9 hown hK hP 0 rfl rfl 0 (by decide) fl7 (fun _ h9 => h9) rfl dX9_told_85 ?_
    refine lv_iconst (v := (0 : Int32)) (pc := 88) hx hb dX9_told_88 (by decide) ?_
    refine z_iald (pc := 89) (k := 0) hx hb hK hP 1 0 rfl rfl (by decide) (by decide) dX9_told_89 ?_
    cases hF
    exact hRet _ _ _ _ rfl dX9_told_90 hP hD hS
  have hF := oif_f hF hk10100
  by_cases hk10101 : p1 = (1 : Int32)
  · have hF := oif_t hF hk10101
    rw [hk10101] at exs
    rw [exs]
    refine lv_tableIn (pc := 1) (tgt := 91) hx hb dX9_told_1 (by decide) (by decide) rfl (by decide) ?_
    refine lv_aload_n (pc := 91) hx hb dX9_told_91 rfl (lv_at hl 0 rfl) ?_
    refine lv_aload_n (pc := 92) hx hb dX9_told_92 rfl (lv_at hl 0 rfl) ?_
    refine va_get (pc := 93) (ci := 9) (C := RX9) (T := TX9) (N := 17) hx hb hts inX9 hown hK hP 0 rfl rfl 0 (by decide) fl7 (fun _ h9 => h9) rfl dX9_told_93 ?_
    refine lv_bipush (v := (64 : Int32)) (pc := 96) hx hb dX9_told_96 (by decide) ?_
    obtain ⟨r_1, hC1, hF⟩ := ob1_e hF
    refine zVr (pc := 98) (As := [.ref mst, .int (64 : Int32)]) (rest := []) E (tX9_classes l D cI cZ cM cS mo mst mpa mim mik mbi mbk mnr mia min mas mpr mfa mme mse deeds sd ent st (64 : Int32) hC1) 2 gX9_told_X9_classes rfl rfl rfl (by decide +kernel) ⟨Nat.le_of_ble_eq_true rfl, Nat.le_of_ble_eq_true rfl⟩ hK hP [0, 1] rfl 0 9 rfl rfl rfl rfl hl.1 rfl (Nat.le_of_ble_eq_true rfl) dX9_told_98 ⟨Nat.zero_le _, Nat.zero_le _⟩ ?_
    cases hF
    exact hRet _ _ _ _ rfl dX9_told_101 hP hD hS
  have hF := oif_f hF hk10101
  by_cases hk10102 : p1 = (2 : Int32)
  · have hF := oif_t hF hk10102
    rw [hk10102] at exs
    rw [exs]
    refine lv_tableIn (pc := 1) (tgt := 102) hx hb dX9_told_1 (by decide) (by decide) rfl (by decide) ?_
    refine lv_aload_n (pc := 102) hx hb dX9_told_102 rfl (lv_at hl 0 rfl) ?_
    refine va_get (pc := 103) (ci := 9) (C := RX9) (T := TX9) (N := 17) hx hb hts inX9 hown hK hP 0 rfl rfl 0 (by decide) fl7 (fun _ h9 => h9) rfl dX9_told_103 ?_
    refine lv_iconst (v := (3 : Int32)) (pc := 106) hx hb dX9_told_106 (by decide) ?_
    refine z_iald (pc := 107) (k := 3) hx hb hK hP 1 0 rfl rfl (by decide) (by decide) dX9_told_107 ?_
    cases hF
    exact hRet _ _ _ _ rfl dX9_told_108 hP hD hS
  have hF := oif_f hF hk10102
  by_cases hk10103 : p1 = (3 : Int32)
  · have hF := oif_t hF hk10103
    rw [hk10103] at exs
    rw [exs]
    refine lv_tableIn (pc := 1) (tgt := 109) hx hb dX9_told_1 (by decide) (by decide) rfl (by decide) ?_
    refine lv_aload_n (pc := 109) hx hb dX9_told_109 rfl (lv_at hl 0 rfl) ?_
    obtain ⟨r_2, hC2, hF⟩ := ob1_e hF
    refine zVr (pc := 110) (As := []) (rest := []) E (tX9_edgesNow l D cI cZ cM cS mo mst mpa mim mik mbi mbk mnr mia min mas mpr mfa mme mse deeds sd ent st hC2) 0 gX9_told_X9_edgesNow rfl rfl rfl (by decide +kernel) ⟨Nat.le_of_ble_eq_true rfl, Nat.le_of_ble_eq_true rfl⟩ hK hP [0, 1] rfl 0 9 rfl rfl rfl rfl hl.1 rfl (Nat.le_of_ble_eq_true rfl) dX9_told_110 ⟨Nat.zero_le _, Nat.zero_le _⟩ ?_
    cases hF
    exact hRet _ _ _ _ rfl dX9_told_113 hP hD hS
  have hF := oif_f hF hk10103
  by_cases hk10104 : p1 = (4 : Int32)
  · have hF := oif_t hF hk10104
    rw [hk10104] at exs
    rw [exs]
    refine lv_tableIn (pc := 1) (tgt := 114) hx hb dX9_told_1 (by decide) (by decide) rfl (by decide) ?_
    refine lv_aload_n (pc := 114) hx hb dX9_told_114 rfl (lv_at hl 0 rfl) ?_
    refine va_get (pc := 115) (ci := 9) (C := RX9) (T := TX9) (N := 17) hx hb hts inX9 hown hK hP 0 rfl rfl 0 (by decide) fl7 (fun _ h9 => h9) rfl dX9_told_115 ?_
    refine lv_iconst (v := (1 : Int32)) (pc := 118) hx hb dX9_told_118 (by decide) ?_
    refine z_iald (pc := 119) (k := 1) hx hb hK hP 1 0 rfl rfl (by decide) (by decide) dX9_told_119 ?_
    cases hF
    exact hRet _ _ _ _ rfl dX9_told_120 hP hD hS
  have hF := oif_f hF hk10104
  by_cases hk10105 : p1 = (5 : Int32)
  · have hF := oif_t hF hk10105
    rw [hk10105] at exs
    rw [exs]
    refine lv_tableIn (pc := 1) (tgt := 121) hx hb dX9_told_1 (by decide) (by decide) rfl (by decide) ?_
    refine lv_aload_n (pc := 121) hx hb dX9_told_121 rfl (lv_at hl 0 rfl) ?_
    refine va_get (pc := 122) (ci := 9) (C := RX9) (T := TX9) (N := 17) hx hb hts inX9 hown hK hP 0 rfl rfl 0 (by decide) fl7 (fun _ h9 => h9) rfl dX9_told_122 ?_
    refine lv_iconst (v := (2 : Int32)) (pc := 125) hx hb dX9_told_125 (by decide) ?_
    refine z_iald (pc := 126) (k := 2) hx hb hK hP 1 0 rfl rfl (by decide) (by decide) dX9_told_126 ?_
    cases hF
    exact hRet _ _ _ _ rfl dX9_told_127 hP hD hS
  have hF := oif_f hF hk10105
  by_cases hk10106 : p1 = (6 : Int32) ∨ p1 = (7 : Int32) ∨ p1 = (8 : Int32) ∨ p1 = (9 : Int32) ∨ p1 = (10 : Int32)
  · have hF := oif_t hF hk10106
    have hg : W p l e (zRm 7 165) s m args below meth c H locs 0 0 Q (F0 m 128 ls []) := by
      refine lv_aload_n (pc := 128) hx hb dX9_told_128 rfl (lv_at hl 0 rfl) ?_
      refine lv_iload_n (pc := 129) hx hb dX9_told_129 rfl (lv_at hl 1 rfl) ?_
      refine lv_bipush (v := (6 : Int32)) (pc := 130) hx hb dX9_told_130 (by decide) ?_
      refine lv_isub (pc := 132) hx hb dX9_told_132 ?_
      obtain ⟨r_3, nr_1, ia_1, inw_1, asd_1, hC3, hF⟩ := ob5_e hF
      refine zV (pc := 133) (As := [.int (p1 - (6 : Int32))]) (rest := []) (wr := [(mbi, .inl (cI, 20, .inl bits)), (mbk, .inl (cI, 20, .inl bcls)), (mse, .inl (cI, 12, .inl sea))]) (w2 := (wX9_told cI cZ cM cS mo mst mpa mim mik mbi mbk mnr mia min mas mpr mfa mme mse deeds sd ent st bits bcls nr_1 ia_1 inw_1 asd_1 sea)) E (tX9_refinedMany l D cI cZ cM cS mo mst mpa mim mik mbi mbk mnr mia min mas mpr mfa mme mse deeds sd ent st nr ia inw asd (p1 - (6 : Int32)) hC3) 1 gX9_told_X9_refinedMany rfl rfl rfl (by decide +kernel) ⟨Nat.le_of_ble_eq_true rfl, Nat.le_of_ble_eq_true rfl⟩ hK hP hD hS hA [0, 1, 4, 5, 6, 7] [2, 3, 8] [3, 4, 0, 1, 5, 6, 7, 8, 2] (by decide) rfl rfl (by decide) (by decide) rfl (by decide) 0 9 rfl rfl rfl rfl hl.1 rfl (Nat.le_of_ble_eq_true rfl) dX9_told_133 ⟨Nat.zero_le _, Nat.zero_le _⟩ (fun H locs hP hD hS => ?_)
      refine W.eq (g2 := F0 m 136 ls [.int r_3]) rfl ?_
      cases hF
      exact hRet _ _ _ _ rfl dX9_told_136 hP hD hS
    rcases hk10106 with hk | hk | hk | hk | hk
    · rw [hk] at exs
      rw [exs]
      refine lv_tableIn (pc := 1) (tgt := 128) hx hb dX9_told_1 (by decide) (by decide) rfl (by decide) ?_
      exact hg
    · rw [hk] at exs
      rw [exs]
      refine lv_tableIn (pc := 1) (tgt := 128) hx hb dX9_told_1 (by decide) (by decide) rfl (by decide) ?_
      exact hg
    · rw [hk] at exs
      rw [exs]
      refine lv_tableIn (pc := 1) (tgt := 128) hx hb dX9_told_1 (by decide) (by decide) rfl (by decide) ?_
      exact hg
    · rw [hk] at exs
      rw [exs]
      refine lv_tableIn (pc := 1) (tgt := 128) hx hb dX9_told_1 (by decide) (by decide) rfl (by decide) ?_
      exact hg
    · rw [hk] at exs
      rw [exs]
      refine lv_tableIn (pc := 1) (tgt := 128) hx hb dX9_told_1 (by decide) (by decide) rfl (by decide) ?_
      exact hg
  have hF := oif_f hF hk10106
  by_cases hk10107 : p1 = (11 : Int32)
  · have hF := oif_t hF hk10107
    rw [hk10107] at exs
    rw [exs]
    refine lv_tableIn (pc := 1) (tgt := 137) hx hb dX9_told_1 (by decide) (by decide) rfl (by decide) ?_
    refine lv_aload_n (pc := 137) hx hb dX9_told_137 rfl (lv_at hl 0 rfl) ?_
    obtain ⟨r_4, nr_2, asd_2, sea_1, hC4, hF⟩ := ob4_e hF
    refine zV (pc := 138) (As := []) (rest := []) (wr := [(mbi, .inl (cI, 20, .inl bits)), (mbk, .inl (cI, 20, .inl bcls)), (mia, .inl (cZ, 144, .inl ia)), (min, .inl (cZ, 144, .inl inw))]) (w2 := (wX9_told cI cZ cM cS mo mst mpa mim mik mbi mbk mnr mia min mas mpr mfa mme mse deeds sd ent st bits bcls nr_2 ia inw asd_2 sea_1)) E (tX9_faultNow l D cI cZ cM cS mo mst mpa mim mik mbi mbk mnr mia min mas mpr mfa mme mse deeds sd ent st nr asd sea hC4) 0 gX9_told_X9_faultNow rfl rfl rfl (by decide +kernel) ⟨Nat.le_of_ble_eq_true rfl, Nat.le_of_ble_eq_true rfl⟩ hK hP hD hS hA [0, 1, 4, 7, 8] [2, 3, 5, 6] [4, 5, 0, 1, 6, 2, 3, 7, 8] (by decide) rfl rfl (by decide) (by decide) rfl (by decide) 0 9 rfl rfl rfl rfl hl.1 rfl (Nat.le_of_ble_eq_true rfl) dX9_told_138 ⟨Nat.zero_le _, Nat.zero_le _⟩ (fun H locs hP hD hS => ?_)
    refine W.eq (g2 := F0 m 141 ls [.int r_4]) rfl ?_
    cases hF
    exact hRet _ _ _ _ rfl dX9_told_141 hP hD hS
  have hF := oif_f hF hk10107
  by_cases hk10108 : p1 = (12 : Int32)
  · have hF := oif_t hF hk10108
    rw [hk10108] at exs
    rw [exs]
    refine lv_tableIn (pc := 1) (tgt := 142) hx hb dX9_told_1 (by decide) (by decide) rfl (by decide) ?_
    refine lv_aload_n (pc := 142) hx hb dX9_told_142 rfl (lv_at hl 0 rfl) ?_
    obtain ⟨r_5, nr_3, asd_3, sea_2, hC5, hF⟩ := ob4_e hF
    refine zV (pc := 143) (As := []) (rest := []) (wr := [(mbi, .inl (cI, 20, .inl bits)), (mbk, .inl (cI, 20, .inl bcls)), (mia, .inl (cZ, 144, .inl ia)), (min, .inl (cZ, 144, .inl inw))]) (w2 := (wX9_told cI cZ cM cS mo mst mpa mim mik mbi mbk mnr mia min mas mpr mfa mme mse deeds sd ent st bits bcls nr_3 ia inw asd_3 sea_2)) E (tX9_cliqueNow l D cI cZ cM cS mo mst mpa mim mik mbi mbk mnr mia min mas mpr mfa mme mse deeds sd ent st nr asd sea hC5) 0 gX9_told_X9_cliqueNow rfl rfl rfl (by decide +kernel) ⟨Nat.le_of_ble_eq_true rfl, Nat.le_of_ble_eq_true rfl⟩ hK hP hD hS hA [0, 1, 4, 7, 8] [2, 3, 5, 6] [4, 5, 0, 1, 6, 2, 3, 7, 8] (by decide) rfl rfl (by decide) (by decide) rfl (by decide) 0 9 rfl rfl rfl rfl hl.1 rfl (Nat.le_of_ble_eq_true rfl) dX9_told_143 ⟨Nat.zero_le _, Nat.zero_le _⟩ (fun H locs hP hD hS => ?_)
    refine W.eq (g2 := F0 m 146 ls [.int r_5]) rfl ?_
    cases hF
    exact hRet _ _ _ _ rfl dX9_told_146 hP hD hS
  have hF := oif_f hF hk10108
  by_cases hk10109 : p1 = (13 : Int32)
  · have hF := oif_t hF hk10109
    rw [hk10109] at exs
    rw [exs]
    refine lv_tableIn (pc := 1) (tgt := 147) hx hb dX9_told_1 (by decide) (by decide) rfl (by decide) ?_
    refine lv_aload_n (pc := 147) hx hb dX9_told_147 rfl (lv_at hl 0 rfl) ?_
    refine va_get (pc := 148) (ci := 9) (C := RX9) (T := TX9) (N := 17) hx hb hts inX9 hown hK hP 0 rfl rfl 8 (by decide) fl143 (fun _ h9 => h9) rfl dX9_told_148 ?_
    cases hF
    exact hRet _ _ _ _ rfl dX9_told_151 hP hD hS
  have hF := oif_f hF hk10109
  by_cases hk10110 : p1 = (14 : Int32)
  · have hF := oif_t hF hk10110
    rw [hk10110] at exs
    rw [exs]
    refine lv_tableIn (pc := 1) (tgt := 152) hx hb dX9_told_1 (by decide) (by decide) rfl (by decide) ?_
    refine lv_aload_n (pc := 152) hx hb dX9_told_152 rfl (lv_at hl 0 rfl) ?_
    obtain ⟨r_6, hC6, hF⟩ := ob1_e hF
    refine zVr (pc := 153) (As := []) (rest := []) E (tX9_wrongNow l D cI cZ cM cS mo mst mpa mim mik mbi mbk mnr mia min mas mpr mfa mme mse deeds sd ent st bits bcls hC6) 0 gX9_told_X9_wrongNow rfl rfl rfl (by decide +kernel) ⟨Nat.le_of_ble_eq_true rfl, Nat.le_of_ble_eq_true rfl⟩ hK hP [0, 1, 2, 3] rfl 0 9 rfl rfl rfl rfl hl.1 rfl (Nat.le_of_ble_eq_true rfl) dX9_told_153 ⟨Nat.zero_le _, Nat.zero_le _⟩ ?_
    cases hF
    exact hRet _ _ _ _ rfl dX9_told_156 hP hD hS
  have hF := oif_f hF hk10110
  by_cases hk10111 : p1 = (15 : Int32)
  · have hF := oif_t hF hk10111
    rw [hk10111] at exs
    rw [exs]
    refine lv_tableIn (pc := 1) (tgt := 157) hx hb dX9_told_1 (by decide) (by decide) rfl (by decide) ?_
    refine lv_aload_n (pc := 157) hx hb dX9_told_157 rfl (lv_at hl 0 rfl) ?_
    refine va_get (pc := 158) (ci := 9) (C := RX9) (T := TX9) (N := 17) hx hb hts inX9 hown hK hP 0 rfl rfl 2 (by decide) fl61 (fun _ h9 => h9) rfl dX9_told_158 ?_
    cases hF
    exact hRet _ _ _ _ rfl dX9_told_161 hP hD hS
  have hF := oif_f hF hk10111
  by_cases hk10112 : p1 = (16 : Int32)
  · have hF := oif_t hF hk10112
    rw [hk10112] at exs
    rw [exs]
    refine lv_tableIn (pc := 1) (tgt := 162) hx hb dX9_told_1 (by decide) (by decide) rfl (by decide) ?_
    refine lv_aload_n (pc := 162) hx hb dX9_told_162 rfl (lv_at hl 0 rfl) ?_
    refine va_get (pc := 163) (ci := 9) (C := RX9) (T := TX9) (N := 17) hx hb hts inX9 hown hK hP 0 rfl rfl 5 (by decide) fl158 (fun _ h9 => h9) rfl dX9_told_163 ?_
    cases hF
    exact hRet _ _ _ _ rfl dX9_told_166 hP hD hS
  have hF := oif_f hF hk10112
  rw [exs]
  refine lv_tableOut (pc := 1) (tgt := 167) hx hb dX9_told_1 (ztabO 17 [0, 1, 2, 3, 4, 5, 6, 7, 8, 9, 10, 11, 12, 13, 14, 15, 16] (by decide) (by decide) (zallC hk10100 (zallC hk10101 (zallC hk10102 (zallC hk10103 (zallC hk10104 (zallC hk10105 (zallC (fun q => hk10106 (.inl q)) (zallC (fun q => hk10106 (.inr (.inl q))) (zallC (fun q => hk10106 (.inr (.inr (.inl q)))) (zallC (fun q => hk10106 (.inr (.inr (.inr (.inl q))))) (zallC (fun q => hk10106 (.inr (.inr (.inr (.inr (q)))))) (zallC hk10107 (zallC hk10108 (zallC hk10109 (zallC hk10110 (zallC hk10111 (zallC hk10112 zallN)))))))))))))))))) (by decide) ?_
  refine lv_ldc (v := (-1000000002 : Int32)) (pc := 167) hx hb hown cn94 dX9_told_167 ?_
  cases hF
  exact hRet _ _ _ _ rfl dX9_told_169 hP hD hS
def fX9_item (p1 : Int32) (p2 : Int32) (deeds : Int32) (sd : Int32) (ent : Int32) (st : (Nat → Int32)) : Option (Int32) := (ob1 (fX9_isItem p1 deeds sd ent st) (fun r_1 => (if r_1 = (0 : Int32) then (some (-1000000001 : Int32)) else (if p2 = (0 : Int32) then (ogd ((4 : Int32) + p1) 76 (some (st (Int32.toNatClampNeg ((4 : Int32) + p1))))) else (if p2 = (1 : Int32) then (ogd ((16 : Int32) + p1) 76 (some (st (Int32.toNatClampNeg ((16 : Int32) + p1))))) else (if p2 = (2 : Int32) then (ogd ((64 : Int32) + p1) 76 (some (st (Int32.toNatClampNeg ((64 : Int32) + p1))))) else (if p2 = (3 : Int32) then (ogd ((64 : Int32) + p1) 76 (ob1 (fX9_membersOf (64 : Int32) (st (Int32.toNatClampNeg ((64 : Int32) + p1))) deeds sd ent st) (fun r_2 => (ob1 (fX9_sizeOf r_2) (fun r_3 => (some r_3)))))) else (if p2 = (4 : Int32) ∨ p2 = (5 : Int32) ∨ p2 = (6 : Int32) then (if (st 1) ≤ (p2 - (4 : Int32)) then (some (-1 : Int32)) else (ogd ((((28 : Int32) + ((3 : Int32) * p1)) + p2) - (4 : Int32)) 76 (some (st (Int32.toNatClampNeg ((((28 : Int32) + ((3 : Int32) * p1)) + p2) - (4 : Int32))))))) else (some (-1000000002 : Int32))))))))))
abbrev wX9_item (cI cZ cM cS : ClassId) (mo mst mpa mim mik mbi mbk mnr mia min mas mpr mfa mme mse : Nat) (deeds : Int32) (sd : Int32) (ent : Int32) (st : (Nat → Int32)) : va_W := [(mo, .inr (9, [.ref mst, .ref mpa, .int deeds, .ref mim, .ref mik, .int sd, .ref mbi, .ref mbk, .int ent, .ref mnr, .ref mia, .ref min, .ref mas, .ref mpr, .ref mfa, .ref mme, .ref mse])), (mst, .inl (cI, 76, .inl st))]
set_option maxHeartbeats 4000000 in
set_option maxRecDepth 100000 in
theorem tX9_item (l : Launch) (D : va_G) (cI cZ cM cS : ClassId) (mo mst mpa mim mik mbi mbk mnr mia min mas mpr mfa mme mse : Nat) (deeds : Int32) (sd : Int32) (ent : Int32) (st : (Nat → Int32)) (p1 : Int32) (p2 : Int32) {r : Int32} (hF : fX9_item p1 p2 deeds sd ent st = some r) : zCR l yX9_item wsX9_item (zRm 2 43) D (zTy cI cZ cM cS) [.ref mo, .int p1, .int p2] (wX9_item cI cZ cM cS mo mst mpa mim mik mbi mbk mnr mia min mas mpr mfa mme mse deeds sd ent st) r := by
  unfold fX9_item at hF
  refine zCR_of (cc := cX9_item) (maxL := 3) (own := RX9) (by decide +kernel) rfl rfl (Nat.le_of_ble_eq_true rfl) (fun p e s m args below meth c Q ls E hK hP hRet hl => ?_)
  have hl : lv_has ls 3 [(0, .ref mo), (1, .int p1), (2, .int p2)] := hl
  obtain ⟨hx, hb, hml, hown, hts⟩ := id E
  have inX9 : ∀ w ∈ u_ws RX9 TX9 17, w ∈ wsX9_item := by decide +kernel
  have fl7 := hts (.fieldLink RX9 7 "SplitClassesModel" "st" "[I") (by decide +kernel)
  have cn93 := hts (.constant RX9 93 (-1000000001)) (by decide +kernel)
  have cn94 := hts (.constant RX9 94 (-1000000002)) (by decide +kernel)
  refine lv_aload_n (pc := 0) hx hb dX9_item_0 rfl (lv_at hl 0 rfl) ?_
  refine lv_iload_n (pc := 1) hx hb dX9_item_1 rfl (lv_at hl 1 rfl) ?_
  obtain ⟨r_1, hC1, hF⟩ := ob1_e hF
  refine zVr (pc := 2) (As := [.int p1]) (rest := []) E (tX9_isItem l D cI cZ cM cS mo mst mpa mim mik mbi mbk mnr mia min mas mpr mfa mme mse deeds sd ent st p1 hC1) 1 gX9_item_X9_isItem rfl rfl rfl (by decide +kernel) ⟨Nat.le_of_ble_eq_true rfl, Nat.le_of_ble_eq_true rfl⟩ hK hP [0, 1] rfl 0 9 rfl rfl rfl rfl hl.1 rfl (Nat.le_of_ble_eq_true rfl) dX9_item_2 ⟨Nat.zero_le _, Nat.zero_le _⟩ ?_
  refine lv_if_ne (pc := 5) (tgt := 11) hx hb dX9_item_5 (by decide) (fun hc => ?_) (fun hc => ?_)
  · have hF := oif_f hF hc
    refine lv_iload_n (pc := 11) hx hb dX9_item_11 rfl (lv_at hl 2 rfl) ?_
    refine lv_topi (fun xs exs => ?_)
    by_cases hk11200 : p2 = (0 : Int32)
    · have hF := oif_t hF hk11200
      rw [hk11200] at exs
      rw [exs]
      refine lv_tableIn (pc := 12) (tgt := 56) hx hb dX9_item_12 (by decide) (by decide) rfl (by decide) ?_
      refine lv_aload_n (pc := 56) hx hb dX9_item_56 rfl (lv_at hl 0 rfl) ?_
      refine va_get (pc := 57) (ci := 9) (C := RX9) (T := TX9) (N := 17) hx hb hts inX9 hown hK hP 0 rfl rfl 0 (by decide) fl7 (fun _ h9 => h9) rfl dX9_item_57 ?_
      refine lv_iconst (v := (4 : Int32)) (pc := 60) hx hb dX9_item_60 (by decide) ?_
      refine lv_iload_n (pc := 61) hx hb dX9_item_61 rfl (lv_at hl 1 rfl) ?_
      refine lv_iadd (pc := 62) hx hb dX9_item_62 ?_
      obtain ⟨hg2, hF⟩ := ogd_e hF
      refine va_iald (pc := 63) hx hb hK hP 1 0 rfl rfl hg2 dX9_item_63 ?_
      cases hF
      exact hRet _ _ rfl dX9_item_64
    have hF := oif_f hF hk11200
    by_cases hk11201 : p2 = (1 : Int32)
    · have hF := oif_t hF hk11201
      rw [hk11201] at exs
      rw [exs]
      refine lv_tableIn (pc := 12) (tgt := 65) hx hb dX9_item_12 (by decide) (by decide) rfl (by decide) ?_
      refine lv_aload_n (pc := 65) hx hb dX9_item_65 rfl (lv_at hl 0 rfl) ?_
      refine va_get (pc := 66) (ci := 9) (C := RX9) (T := TX9) (N := 17) hx hb hts inX9 hown hK hP 0 rfl rfl 0 (by decide) fl7 (fun _ h9 => h9) rfl dX9_item_66 ?_
      refine lv_bipush (v := (16 : Int32)) (pc := 69) hx hb dX9_item_69 (by decide) ?_
      refine lv_iload_n (pc := 71) hx hb dX9_item_71 rfl (lv_at hl 1 rfl) ?_
      refine lv_iadd (pc := 72) hx hb dX9_item_72 ?_
      obtain ⟨hg3, hF⟩ := ogd_e hF
      refine va_iald (pc := 73) hx hb hK hP 1 0 rfl rfl hg3 dX9_item_73 ?_
      cases hF
      exact hRet _ _ rfl dX9_item_74
    have hF := oif_f hF hk11201
    by_cases hk11202 : p2 = (2 : Int32)
    · have hF := oif_t hF hk11202
      rw [hk11202] at exs
      rw [exs]
      refine lv_tableIn (pc := 12) (tgt := 75) hx hb dX9_item_12 (by decide) (by decide) rfl (by decide) ?_
      refine lv_aload_n (pc := 75) hx hb dX9_item_75 rfl (lv_at hl 0 rfl) ?_
      refine va_get (pc := 76) (ci := 9) (C := RX9) (T := TX9) (N := 17) hx hb hts inX9 hown hK hP 0 rfl rfl 0 (by decide) fl7 (fun _ h9 => h9) rfl dX9_item_76 ?_
      refine lv_bipush (v := (64 : Int32)) (pc := 79) hx hb dX9_item_79 (by decide) ?_
      refine lv_iload_n (pc := 81) hx hb dX9_item_81 rfl (lv_at hl 1 rfl) ?_
      refine lv_iadd (pc := 82) hx hb dX9_item_82 ?_
      obtain ⟨hg4, hF⟩ := ogd_e hF
      refine va_iald (pc := 83) hx hb hK hP 1 0 rfl rfl hg4 dX9_item_83 ?_
      cases hF
      exact hRet _ _ rfl dX9_item_84
    have hF := oif_f hF hk11202
    by_cases hk11203 : p2 = (3 : Int32)
    · have hF := oif_t hF hk11203
      rw [hk11203] at exs
      rw [exs]
      refine lv_tableIn (pc := 12) (tgt := 85) hx hb dX9_item_12 (by decide) (by decide) rfl (by decide) ?_
      refine lv_aload_n (pc := 85) hx hb dX9_item_85 rfl (lv_at hl 0 rfl) ?_
      refine lv_aload_n (pc := 86) hx hb dX9_item_86 rfl (lv_at hl 0 rfl) ?_
      refine va_get (pc := 87) (ci := 9) (C := RX9) (T := TX9) (N := 17) hx hb hts inX9 hown hK hP 0 rfl rfl 0 (by decide) fl7 (fun _ h9 => h9) rfl dX9_item_87 ?_
      refine lv_bipush (v := (64 : Int32)) (pc := 90) hx hb dX9_item_90 (by decide) ?_
      refine lv_aload_n (pc := 92) hx hb dX9_item_92 rfl (lv_at hl 0 rfl) ?_
      refine va_get (pc := 93) (ci := 9) (C := RX9) (T := TX9) (N := 17) hx hb hts inX9 hown hK hP 0 rfl rfl 0 (by decide) fl7 (fun _ h9 => h9) rfl dX9_item_93 ?_
      refine lv_bipush (v := (64 : Int32)) (pc := 96) hx hb dX9_item_96 (by decide) ?_
      refine lv_iload_n (pc := 98) hx hb dX9_item_98 rfl (lv_at hl 1 rfl) ?_
      refine lv_iadd (pc := 99) hx hb dX9_item_99 ?_
      obtain ⟨hg5, hF⟩ := ogd_e hF
      refine va_iald (pc := 100) hx hb hK hP 1 0 rfl rfl hg5 dX9_item_100 ?_
      obtain ⟨r_2, hC6, hF⟩ := ob1_e hF
      refine zVr (pc := 101) (As := [.ref mst, .int (64 : Int32), .int (st (Int32.toNatClampNeg ((64 : Int32) + p1)))]) (rest := []) E (tX9_membersOf l D cI cZ cM cS mo mst mpa mim mik mbi mbk mnr mia min mas mpr mfa mme mse deeds sd ent st (64 : Int32) (st (Int32.toNatClampNeg ((64 : Int32) + p1))) hC6) 3 gX9_item_X9_membersOf rfl rfl rfl (by decide +kernel) ⟨Nat.le_of_ble_eq_true rfl, Nat.le_of_ble_eq_true rfl⟩ hK hP [0, 1] rfl 0 9 rfl rfl rfl rfl hl.1 rfl (Nat.le_of_ble_eq_true rfl) dX9_item_101 ⟨Nat.zero_le _, Nat.zero_le _⟩ ?_
      obtain ⟨r_3, hC7, hF⟩ := ob1_e hF
      refine zSr (pc := 104) (As := [.int r_2]) (rest := []) E (tX9_sizeOf l D cI cZ cM cS r_2 hC7) 1 gX9_item_X9_sizeOf rfl rfl rfl (by decide +kernel) ⟨Nat.le_of_ble_eq_true rfl, Nat.le_of_ble_eq_true rfl⟩ hK hP [] rfl rfl hl.1 rfl (Nat.le_of_ble_eq_true rfl) dX9_item_104 ⟨Nat.zero_le _, Nat.zero_le _⟩ ?_
      cases hF
      exact hRet _ _ rfl dX9_item_107
    have hF := oif_f hF hk11203
    by_cases hk11204 : p2 = (4 : Int32) ∨ p2 = (5 : Int32) ∨ p2 = (6 : Int32)
    · have hF := oif_t hF hk11204
      have hg : W p l e (zRm 2 43) s m args below meth c s.heap [] 0 0 Q (F0 m 108 ls []) := by
        refine lv_iload_n (pc := 108) hx hb dX9_item_108 rfl (lv_at hl 2 rfl) ?_
        refine lv_iconst (v := (4 : Int32)) (pc := 109) hx hb dX9_item_109 (by decide) ?_
        refine lv_isub (pc := 110) hx hb dX9_item_110 ?_
        refine lv_aload_n (pc := 111) hx hb dX9_item_111 rfl (lv_at hl 0 rfl) ?_
        refine va_get (pc := 112) (ci := 9) (C := RX9) (T := TX9) (N := 17) hx hb hts inX9 hown hK hP 0 rfl rfl 0 (by decide) fl7 (fun _ h9 => h9) rfl dX9_item_112 ?_
        refine lv_iconst (v := (1 : Int32)) (pc := 115) hx hb dX9_item_115 (by decide) ?_
        refine z_iald (pc := 116) (k := 1) hx hb hK hP 1 0 rfl rfl (by decide) (by decide) dX9_item_116 ?_
        refine lv_icmp_ge (pc := 117) (tgt := 138) hx hb dX9_item_117 (by decide) (fun hc => ?_) (fun hc => ?_)
        · have hF := oif_t hF hc
          refine lv_iconst (v := (-1 : Int32)) (pc := 138) hx hb dX9_item_138 (by decide) ?_
          cases hF
          exact hRet _ _ rfl dX9_item_139
        · have hF := oif_f hF hc
          refine lv_aload_n (pc := 120) hx hb dX9_item_120 rfl (lv_at hl 0 rfl) ?_
          refine va_get (pc := 121) (ci := 9) (C := RX9) (T := TX9) (N := 17) hx hb hts inX9 hown hK hP 0 rfl rfl 0 (by decide) fl7 (fun _ h9 => h9) rfl dX9_item_121 ?_
          refine lv_bipush (v := (28 : Int32)) (pc := 124) hx hb dX9_item_124 (by decide) ?_
          refine lv_iconst (v := (3 : Int32)) (pc := 126) hx hb dX9_item_126 (by decide) ?_
          refine lv_iload_n (pc := 127) hx hb dX9_item_127 rfl (lv_at hl 1 rfl) ?_
          refine lv_imul (pc := 128) hx hb dX9_item_128 ?_
          refine lv_iadd (pc := 129) hx hb dX9_item_129 ?_
          refine lv_iload_n (pc := 130) hx hb dX9_item_130 rfl (lv_at hl 2 rfl) ?_
          refine lv_iadd (pc := 131) hx hb dX9_item_131 ?_
          refine lv_iconst (v := (4 : Int32)) (pc := 132) hx hb dX9_item_132 (by decide) ?_
          refine lv_isub (pc := 133) hx hb dX9_item_133 ?_
          obtain ⟨hg8, hF⟩ := ogd_e hF
          refine va_iald (pc := 134) hx hb hK hP 1 0 rfl rfl hg8 dX9_item_134 ?_
          refine lv_goto (pc := 135) (tgt := 139) hx hb dX9_item_135 (by decide) ?_
          cases hF
          exact hRet _ _ rfl dX9_item_139
      rcases hk11204 with hk | hk | hk
      · rw [hk] at exs
        rw [exs]
        refine lv_tableIn (pc := 12) (tgt := 108) hx hb dX9_item_12 (by decide) (by decide) rfl (by decide) ?_
        exact hg
      · rw [hk] at exs
        rw [exs]
        refine lv_tableIn (pc := 12) (tgt := 108) hx hb dX9_item_12 (by decide) (by decide) rfl (by decide) ?_
        exact hg
      · rw [hk] at exs
        rw [exs]
        refine lv_tableIn (pc := 12) (tgt := 108) hx hb dX9_item_12 (by decide) (by decide) rfl (by decide) ?_
        exact hg
    have hF := oif_f hF hk11204
    rw [exs]
    refine lv_tableOut (pc := 12) (tgt := 140) hx hb dX9_item_12 (ztabO 7 [0, 1, 2, 3, 4, 5, 6] (by decide) (by decide) (zallC hk11200 (zallC hk11201 (zallC hk11202 (zallC hk11203 (zallC (fun q => hk11204 (.inl q)) (zallC (fun q => hk11204 (.inr (.inl q))) (zallC (fun q => hk11204 (.inr (.inr (q)))) zallN)))))))) (by decide) ?_
    refine lv_ldc (v := (-1000000002 : Int32)) (pc := 140) hx hb hown cn94 dX9_item_140 ?_
    cases hF
    exact hRet _ _ rfl dX9_item_142
  · have hF := oif_t hF hc
    refine lv_ldc (v := (-1000000001 : Int32)) (pc := 8) hx hb hown cn93 dX9_item_8 ?_
    cases hF
    exact hRet _ _ rfl dX9_item_10
def fX9_classAt (p1 : Int32) (deeds : Int32) (sd : Int32) (ent : Int32) (st : (Nat → Int32)) : Option (Int32) := (ob1 (fX9_classes (64 : Int32) deeds sd ent st) (fun r_1 => (ob1 (fX9_in p1 (0 : Int32) (r_1 - (1 : Int32))) (fun r_2 => (if r_2 = (0 : Int32) then (some (-1000000001 : Int32)) else (ob1 (fX9_membersOf (64 : Int32) p1 deeds sd ent st) (fun r_3 => (some r_3))))))))
abbrev wX9_classAt (cI cZ cM cS : ClassId) (mo mst mpa mim mik mbi mbk mnr mia min mas mpr mfa mme mse : Nat) (deeds : Int32) (sd : Int32) (ent : Int32) (st : (Nat → Int32)) : va_W := [(mo, .inr (9, [.ref mst, .ref mpa, .int deeds, .ref mim, .ref mik, .int sd, .ref mbi, .ref mbk, .int ent, .ref mnr, .ref mia, .ref min, .ref mas, .ref mpr, .ref mfa, .ref mme, .ref mse])), (mst, .inl (cI, 76, .inl st))]
set_option maxHeartbeats 4000000 in
set_option maxRecDepth 100000 in
theorem tX9_classAt (l : Launch) (D : va_G) (cI cZ cM cS : ClassId) (mo mst mpa mim mik mbi mbk mnr mia min mas mpr mfa mme mse : Nat) (deeds : Int32) (sd : Int32) (ent : Int32) (st : (Nat → Int32)) (p1 : Int32) {r : Int32} (hF : fX9_classAt p1 deeds sd ent st = some r) : zCR l yX9_classAt wsX9_classAt (zRm 1 25) D (zTy cI cZ cM cS) [.ref mo, .int p1] (wX9_classAt cI cZ cM cS mo mst mpa mim mik mbi mbk mnr mia min mas mpr mfa mme mse deeds sd ent st) r := by
  unfold fX9_classAt at hF
  refine zCR_of (cc := cX9_classAt) (maxL := 2) (own := RX9) (by decide +kernel) rfl rfl (Nat.le_of_ble_eq_true rfl) (fun p e s m args below meth c Q ls E hK hP hRet hl => ?_)
  have hl : lv_has ls 2 [(0, .ref mo), (1, .int p1)] := hl
  obtain ⟨hx, hb, hml, hown, hts⟩ := id E
  have inX9 : ∀ w ∈ u_ws RX9 TX9 17, w ∈ wsX9_classAt := by decide +kernel
  have fl7 := hts (.fieldLink RX9 7 "SplitClassesModel" "st" "[I") (by decide +kernel)
  have cn93 := hts (.constant RX9 93 (-1000000001)) (by decide +kernel)
  refine lv_iload_n (pc := 0) hx hb dX9_classAt_0 rfl (lv_at hl 1 rfl) ?_
  refine lv_iconst (v := (0 : Int32)) (pc := 1) hx hb dX9_classAt_1 (by decide) ?_
  refine lv_aload_n (pc := 2) hx hb dX9_classAt_2 rfl (lv_at hl 0 rfl) ?_
  refine lv_aload_n (pc := 3) hx hb dX9_classAt_3 rfl (lv_at hl 0 rfl) ?_
  refine va_get (pc := 4) (ci := 9) (C := RX9) (T := TX9) (N := 17) hx hb hts inX9 hown hK hP 0 rfl rfl 0 (by decide) fl7 (fun _ h9 => h9) rfl dX9_classAt_4 ?_
  refine lv_bipush (v := (64 : Int32)) (pc := 7) hx hb dX9_classAt_7 (by decide) ?_
  obtain ⟨r_1, hC1, hF⟩ := ob1_e hF
  refine zVr (pc := 9) (As := [.ref mst, .int (64 : Int32)]) (rest := [.int (0 : Int32), .int p1]) E (tX9_classes l D cI cZ cM cS mo mst mpa mim mik mbi mbk mnr mia min mas mpr mfa mme mse deeds sd ent st (64 : Int32) hC1) 2 gX9_classAt_X9_classes rfl rfl rfl (by decide +kernel) ⟨Nat.le_of_ble_eq_true rfl, Nat.le_of_ble_eq_true rfl⟩ hK hP [0, 1] rfl 0 9 rfl rfl rfl rfl hl.1 rfl (Nat.le_of_ble_eq_true rfl) dX9_classAt_9 ⟨Nat.zero_le _, Nat.zero_le _⟩ ?_
  refine lv_iconst (v := (1 : Int32)) (pc := 12) hx hb dX9_classAt_12 (by decide) ?_
  refine lv_isub (pc := 13) hx hb dX9_classAt_13 ?_
  obtain ⟨r_2, hC2, hF⟩ := ob1_e hF
  refine zSr (pc := 14) (As := [.int p1, .int (0 : Int32), .int (r_1 - (1 : Int32))]) (rest := []) E (tX9_in l D cI cZ cM cS p1 (0 : Int32) (r_1 - (1 : Int32)) hC2) 3 gX9_classAt_X9_in rfl rfl rfl (by decide +kernel) ⟨Nat.le_of_ble_eq_true rfl, Nat.le_of_ble_eq_true rfl⟩ hK hP [] rfl rfl hl.1 rfl (Nat.le_of_ble_eq_true rfl) dX9_classAt_14 ⟨Nat.zero_le _, Nat.zero_le _⟩ ?_
  refine lv_if_eq (pc := 17) (tgt := 34) hx hb dX9_classAt_17 (by decide) (fun hc => ?_) (fun hc => ?_)
  · have hF := oif_t hF hc
    refine lv_ldc (v := (-1000000001 : Int32)) (pc := 34) hx hb hown cn93 dX9_classAt_34 ?_
    cases hF
    exact hRet _ _ rfl dX9_classAt_36
  · have hF := oif_f hF hc
    refine lv_aload_n (pc := 20) hx hb dX9_classAt_20 rfl (lv_at hl 0 rfl) ?_
    refine lv_aload_n (pc := 21) hx hb dX9_classAt_21 rfl (lv_at hl 0 rfl) ?_
    refine va_get (pc := 22) (ci := 9) (C := RX9) (T := TX9) (N := 17) hx hb hts inX9 hown hK hP 0 rfl rfl 0 (by decide) fl7 (fun _ h9 => h9) rfl dX9_classAt_22 ?_
    refine lv_bipush (v := (64 : Int32)) (pc := 25) hx hb dX9_classAt_25 (by decide) ?_
    refine lv_iload_n (pc := 27) hx hb dX9_classAt_27 rfl (lv_at hl 1 rfl) ?_
    obtain ⟨r_3, hC3, hF⟩ := ob1_e hF
    refine zVr (pc := 28) (As := [.ref mst, .int (64 : Int32), .int p1]) (rest := []) E (tX9_membersOf l D cI cZ cM cS mo mst mpa mim mik mbi mbk mnr mia min mas mpr mfa mme mse deeds sd ent st (64 : Int32) p1 hC3) 3 gX9_classAt_X9_membersOf rfl rfl rfl (by decide +kernel) ⟨Nat.le_of_ble_eq_true rfl, Nat.le_of_ble_eq_true rfl⟩ hK hP [0, 1] rfl 0 9 rfl rfl rfl rfl hl.1 rfl (Nat.le_of_ble_eq_true rfl) dX9_classAt_28 ⟨Nat.zero_le _, Nat.zero_le _⟩ ?_
    refine lv_goto (pc := 31) (tgt := 36) hx hb dX9_classAt_31 (by decide) ?_
    cases hF
    exact hRet _ _ rfl dX9_classAt_36
def fX9_items (p1 : Int32) (deeds : Int32) (sd : Int32) (ent : Int32) (st : (Nat → Int32)) (past : (Nat → Int32)) : Option (Int32 × Int32 × (Nat → Int32) × (Nat → Int32)) := (ob1 (fX9_in p1 (1 : Int32) (12 : Int32)) (fun r_1 => (if r_1 = (0 : Int32) then (some ((-1000000002 : Int32), deeds, st, past)) else (ob2 (fX9_notes deeds sd ent st past) (fun deeds_1 past_1 => (ob1 (fX9_lays p1 deeds_1 sd ent st) (fun st_1 => (some ((st 0), deeds_1, st_1, past_1)))))))))
abbrev wX9_items (cI cZ cM cS : ClassId) (mo mst mpa mim mik mbi mbk mnr mia min mas mpr mfa mme mse : Nat) (deeds : Int32) (sd : Int32) (ent : Int32) (st : (Nat → Int32)) (past : (Nat → Int32)) : va_W := [(mo, .inr (9, [.ref mst, .ref mpa, .int deeds, .ref mim, .ref mik, .int sd, .ref mbi, .ref mbk, .int ent, .ref mnr, .ref mia, .ref min, .ref mas, .ref mpr, .ref mfa, .ref mme, .ref mse])), (mst, .inl (cI, 76, .inl st)), (mpa, .inl (cI, 1216, .inl past))]
set_option maxHeartbeats 4000000 in
set_option maxRecDepth 100000 in
theorem tX9_items (l : Launch) (D : va_G) (cI cZ cM cS : ClassId) (mo mst mpa mim mik mbi mbk mnr mia min mas mpr mfa mme mse : Nat) (deeds : Int32) (sd : Int32) (ent : Int32) (st : (Nat → Int32)) (past : (Nat → Int32)) (p1 : Int32) {r : Int32} {deeds' : Int32} {st' : (Nat → Int32)} {past' : (Nat → Int32)} (hF : fX9_items p1 deeds sd ent st past = some (r, deeds', st', past')) : zCW l yX9_items wsX9_items (zRm 2 45) D (zTy cI cZ cM cS) [.ref mo, .int p1] (wX9_items cI cZ cM cS mo mst mpa mim mik mbi mbk mnr mia min mas mpr mfa mme mse deeds sd ent st past) (wX9_items cI cZ cM cS mo mst mpa mim mik mbi mbk mnr mia min mas mpr mfa mme mse deeds' sd ent st' past') (some (.int r)) := by
  unfold fX9_items at hF
  refine zCW_ofi (cc := cX9_items) (maxL := 3) (own := RX9) (by decide) rfl rfl (Nat.le_of_ble_eq_true rfl) (fun p e s m args below meth c Q ls A E hA hK hP hD hRet hS hl => ?_)
  refine zgen (fun H locs hP hS => ?_) hP hS
  have hl : lv_has ls 3 [(0, .ref mo), (1, .int p1)] := hl
  obtain ⟨hx, hb, hml, hown, hts⟩ := id E
  have inX9 : ∀ w ∈ u_ws RX9 TX9 17, w ∈ wsX9_items := by decide +kernel
  have fl7 := hts (.fieldLink RX9 7 "SplitClassesModel" "st" "[I") (by decide +kernel)
  have cn94 := hts (.constant RX9 94 (-1000000002)) (by decide +kernel)
  refine lv_iload_n (pc := 0) hx hb dX9_items_0 rfl (lv_at hl 1 rfl) ?_
  refine lv_iconst (v := (1 : Int32)) (pc := 1) hx hb dX9_items_1 (by decide) ?_
  refine lv_bipush (v := (12 : Int32)) (pc := 2) hx hb dX9_items_2 (by decide) ?_
  obtain ⟨r_1, hC1, hF⟩ := ob1_e hF
  refine zSr (pc := 4) (As := [.int p1, .int (1 : Int32), .int (12 : Int32)]) (rest := []) E (tX9_in l D cI cZ cM cS p1 (1 : Int32) (12 : Int32) hC1) 3 gX9_items_X9_in rfl rfl rfl (by decide +kernel) ⟨Nat.le_of_ble_eq_true rfl, Nat.le_of_ble_eq_true rfl⟩ hK hP [] rfl rfl hl.1 rfl (Nat.le_of_ble_eq_true rfl) dX9_items_4 ⟨Nat.zero_le _, Nat.zero_le _⟩ ?_
  refine lv_if_ne (pc := 7) (tgt := 13) hx hb dX9_items_7 (by decide) (fun hc => ?_) (fun hc => ?_)
  · have hF := oif_f hF hc
    refine lv_aload_n (pc := 13) hx hb dX9_items_13 rfl (lv_at hl 0 rfl) ?_
    obtain ⟨deeds_1, past_1, hC2, hF⟩ := ob2_e hF
    refine zV (pc := 14) (As := []) (rest := []) (wr := []) (w2 := (wX9_items cI cZ cM cS mo mst mpa mim mik mbi mbk mnr mia min mas mpr mfa mme mse deeds_1 sd ent st past_1)) E (tX9_notes l D cI cZ cM cS mo mst mpa mim mik mbi mbk mnr mia min mas mpr mfa mme mse deeds sd ent st past hC2) 0 gX9_items_X9_notes rfl rfl rfl (by decide +kernel) ⟨Nat.le_of_ble_eq_true rfl, Nat.le_of_ble_eq_true rfl⟩ hK hP hD hS hA [0, 1, 2] [] [0, 1, 2] (by decide) rfl rfl (by decide) (by decide) rfl (by decide) 0 9 rfl rfl rfl rfl hl.1 rfl (Nat.le_of_ble_eq_true rfl) dX9_items_14 ⟨Nat.zero_le _, Nat.zero_le _⟩ (fun H locs hP hD hS => ?_)
    refine W.eq (g2 := F0 m 17 ls []) rfl ?_
    refine lv_aload_n (pc := 17) hx hb dX9_items_17 rfl (lv_at hl 0 rfl) ?_
    refine va_get (pc := 18) (ci := 9) (C := RX9) (T := TX9) (N := 17) hx hb hts inX9 hown hK hP 0 rfl rfl 0 (by decide) fl7 (fun _ h9 => h9) rfl dX9_items_18 ?_
    refine lv_iconst (v := (0 : Int32)) (pc := 21) hx hb dX9_items_21 (by decide) ?_
    refine z_iald (pc := 22) (k := 0) hx hb hK hP 1 0 rfl rfl (by decide) (by decide) dX9_items_22 ?_
    refine lv_istore_n (lv' := [(2, .int (st 0)), (0, .ref mo), (1, .int p1)]) (pc := 23) hx hb dX9_items_23 rfl hl (by decide) rfl (fun ls hl => ?_)
    refine lv_aload_n (pc := 24) hx hb dX9_items_24 rfl (lv_at hl 1 rfl) ?_
    refine lv_iload_n (pc := 25) hx hb dX9_items_25 rfl (lv_at hl 2 rfl) ?_
    obtain ⟨st_1, hC3, hF⟩ := ob1_e hF
    refine zV (pc := 26) (As := [.int p1]) (rest := []) (wr := [(mpa, .inl (cI, 1216, .inl past_1))]) (w2 := (wX9_items cI cZ cM cS mo mst mpa mim mik mbi mbk mnr mia min mas mpr mfa mme mse deeds_1 sd ent st_1 past_1)) E (tX9_lays l D cI cZ cM cS mo mst mpa mim mik mbi mbk mnr mia min mas mpr mfa mme mse deeds_1 sd ent st p1 hC3) 1 gX9_items_X9_lays rfl rfl rfl (by decide +kernel) ⟨Nat.le_of_ble_eq_true rfl, Nat.le_of_ble_eq_true rfl⟩ hK hP hD hS hA [0, 1] [2] [1, 2, 0] (by decide) rfl rfl (by decide) (by decide) rfl (by decide) 0 9 rfl rfl rfl rfl hl.1 rfl (Nat.le_of_ble_eq_true rfl) dX9_items_26 ⟨Nat.zero_le _, Nat.zero_le _⟩ (fun H locs hP hD hS => ?_)
    refine W.eq (g2 := F0 m 29 ls []) rfl ?_
    refine lv_iload_n (pc := 29) hx hb dX9_items_29 rfl (lv_at hl 0 rfl) ?_
    cases hF
    exact hRet _ _ _ _ rfl dX9_items_30 hP hD hS
  · have hF := oif_t hF hc
    refine lv_ldc (v := (-1000000002 : Int32)) (pc := 10) hx hb hown cn94 dX9_items_10 ?_
    cases hF
    exact hRet _ _ _ _ rfl dX9_items_12 hP hD hS
def fX9_turnsEdge (p1 : Int32) (p2 : Int32) (deeds : Int32) (sd : Int32) (ent : Int32) (st : (Nat → Int32)) : Option ((Nat → Int32)) := (ogd ((16 : Int32) + p1) 76 (ogd ((16 : Int32) + p1) 76 (ogd ((16 : Int32) + p2) 76 (ogd ((16 : Int32) + p2) 76 (some (upd (upd st (Int32.toNatClampNeg ((16 : Int32) + p1)) ((st (Int32.toNatClampNeg ((16 : Int32) + p1))) ^^^ ((1 : Int32) <<< (p2 &&& 31)))) (Int32.toNatClampNeg ((16 : Int32) + p2)) (((upd st (Int32.toNatClampNeg ((16 : Int32) + p1)) ((st (Int32.toNatClampNeg ((16 : Int32) + p1))) ^^^ ((1 : Int32) <<< (p2 &&& 31)))) (Int32.toNatClampNeg ((16 : Int32) + p2))) ^^^ ((1 : Int32) <<< (p1 &&& 31)))))))))
abbrev wX9_turnsEdge (cI cZ cM cS : ClassId) (mo mst mpa mim mik mbi mbk mnr mia min mas mpr mfa mme mse : Nat) (deeds : Int32) (sd : Int32) (ent : Int32) (st : (Nat → Int32)) : va_W := [(mo, .inr (9, [.ref mst, .ref mpa, .int deeds, .ref mim, .ref mik, .int sd, .ref mbi, .ref mbk, .int ent, .ref mnr, .ref mia, .ref min, .ref mas, .ref mpr, .ref mfa, .ref mme, .ref mse])), (mst, .inl (cI, 76, .inl st))]
set_option maxHeartbeats 4000000 in
set_option maxRecDepth 100000 in
theorem tX9_turnsEdge (l : Launch) (D : va_G) (cI cZ cM cS : ClassId) (mo mst mpa mim mik mbi mbk mnr mia min mas mpr mfa mme mse : Nat) (deeds : Int32) (sd : Int32) (ent : Int32) (st : (Nat → Int32)) (p1 : Int32) (p2 : Int32) {st' : (Nat → Int32)} (hF : fX9_turnsEdge p1 p2 deeds sd ent st = some st') : zCW l yX9_turnsEdge wsX9_turnsEdge (zRm 0 0) D (zTy cI cZ cM cS) [.ref mo, .int p1, .int p2] (wX9_turnsEdge cI cZ cM cS mo mst mpa mim mik mbi mbk mnr mia min mas mpr mfa mme mse deeds sd ent st) (wX9_turnsEdge cI cZ cM cS mo mst mpa mim mik mbi mbk mnr mia min mas mpr mfa mme mse deeds sd ent st') none := by
  unfold fX9_turnsEdge at hF
  refine zCW_ofv (cc := cX9_turnsEdge) (maxL := 3) (own := RX9) (by decide) rfl rfl (Nat.le_of_ble_eq_true rfl) (fun p e s m args below meth c Q ls A E hA hK hP hD hRet hS hl => ?_)
  refine zgen (fun H locs hP hS => ?_) hP hS
  have hl : lv_has ls 3 [(0, .ref mo), (1, .int p1), (2, .int p2)] := hl
  obtain ⟨hx, hb, hml, hown, hts⟩ := id E
  have inX9 : ∀ w ∈ u_ws RX9 TX9 17, w ∈ wsX9_turnsEdge := by decide +kernel
  have fl7 := hts (.fieldLink RX9 7 "SplitClassesModel" "st" "[I") (by decide +kernel)
  refine lv_aload_n (pc := 0) hx hb dX9_turnsEdge_0 rfl (lv_at hl 0 rfl) ?_
  refine va_get (pc := 1) (ci := 9) (C := RX9) (T := TX9) (N := 17) hx hb hts inX9 hown hK hP 0 rfl rfl 0 (by decide) fl7 (fun _ h9 => h9) rfl dX9_turnsEdge_1 ?_
  refine lv_bipush (v := (16 : Int32)) (pc := 4) hx hb dX9_turnsEdge_4 (by decide) ?_
  refine lv_iload_n (pc := 6) hx hb dX9_turnsEdge_6 rfl (lv_at hl 1 rfl) ?_
  refine lv_iadd (pc := 7) hx hb dX9_turnsEdge_7 ?_
  refine lv_dup2_11 (pc := 8) hx hb dX9_turnsEdge_8 rfl rfl ?_
  obtain ⟨hg1, hF⟩ := ogd_e hF
  refine va_iald (pc := 9) hx hb hK hP 1 0 rfl rfl hg1 dX9_turnsEdge_9 ?_
  refine lv_iconst (v := (1 : Int32)) (pc := 10) hx hb dX9_turnsEdge_10 (by decide) ?_
  refine lv_iload_n (pc := 11) hx hb dX9_turnsEdge_11 rfl (lv_at hl 2 rfl) ?_
  refine lv_ishl (pc := 12) hx hb dX9_turnsEdge_12 ?_
  refine lv_ixor (pc := 13) hx hb dX9_turnsEdge_13 ?_
  obtain ⟨hg2, hF⟩ := ogd_e hF
  refine va_iast (pc := 14) hx hb hK hP hD hS 1 0 rfl rfl hg2 dX9_turnsEdge_14 (fun H locs hP hD hS => ?_)
  have hP : va_P D vwCl (wX9_turnsEdge cI cZ cM cS mo mst mpa mim mik mbi mbk mnr mia min mas mpr mfa mme mse deeds sd ent (upd st (Int32.toNatClampNeg ((16 : Int32) + p1)) ((st (Int32.toNatClampNeg ((16 : Int32) + p1))) ^^^ ((1 : Int32) <<< (p2 &&& 31))))) H := hP
  have hD : va_D A (wX9_turnsEdge cI cZ cM cS mo mst mpa mim mik mbi mbk mnr mia min mas mpr mfa mme mse deeds sd ent (upd st (Int32.toNatClampNeg ((16 : Int32) + p1)) ((st (Int32.toNatClampNeg ((16 : Int32) + p1))) ^^^ ((1 : Int32) <<< (p2 &&& 31))))) := hD
  refine lv_aload_n (pc := 15) hx hb dX9_turnsEdge_15 rfl (lv_at hl 0 rfl) ?_
  refine va_get (pc := 16) (ci := 9) (C := RX9) (T := TX9) (N := 17) hx hb hts inX9 hown hK hP 0 rfl rfl 0 (by decide) fl7 (fun _ h9 => h9) rfl dX9_turnsEdge_16 ?_
  refine lv_bipush (v := (16 : Int32)) (pc := 19) hx hb dX9_turnsEdge_19 (by decide) ?_
  refine lv_iload_n (pc := 21) hx hb dX9_turnsEdge_21 rfl (lv_at hl 2 rfl) ?_
  refine lv_iadd (pc := 22) hx hb dX9_turnsEdge_22 ?_
  refine lv_dup2_11 (pc := 23) hx hb dX9_turnsEdge_23 rfl rfl ?_
  obtain ⟨hg3, hF⟩ := ogd_e hF
  refine va_iald (pc := 24) hx hb hK hP 1 0 rfl rfl hg3 dX9_turnsEdge_24 ?_
  refine lv_iconst (v := (1 : Int32)) (pc := 25) hx hb dX9_turnsEdge_25 (by decide) ?_
  refine lv_iload_n (pc := 26) hx hb dX9_turnsEdge_26 rfl (lv_at hl 1 rfl) ?_
  refine lv_ishl (pc := 27) hx hb dX9_turnsEdge_27 ?_
  refine lv_ixor (pc := 28) hx hb dX9_turnsEdge_28 ?_
  obtain ⟨hg4, hF⟩ := ogd_e hF
  refine va_iast (pc := 29) hx hb hK hP hD hS 1 0 rfl rfl hg4 dX9_turnsEdge_29 (fun H locs hP hD hS => ?_)
  have hP : va_P D vwCl (wX9_turnsEdge cI cZ cM cS mo mst mpa mim mik mbi mbk mnr mia min mas mpr mfa mme mse deeds sd ent (upd (upd st (Int32.toNatClampNeg ((16 : Int32) + p1)) ((st (Int32.toNatClampNeg ((16 : Int32) + p1))) ^^^ ((1 : Int32) <<< (p2 &&& 31)))) (Int32.toNatClampNeg ((16 : Int32) + p2)) (((upd st (Int32.toNatClampNeg ((16 : Int32) + p1)) ((st (Int32.toNatClampNeg ((16 : Int32) + p1))) ^^^ ((1 : Int32) <<< (p2 &&& 31)))) (Int32.toNatClampNeg ((16 : Int32) + p2))) ^^^ ((1 : Int32) <<< (p1 &&& 31))))) H := hP
  have hD : va_D A (wX9_turnsEdge cI cZ cM cS mo mst mpa mim mik mbi mbk mnr mia min mas mpr mfa mme mse deeds sd ent (upd (upd st (Int32.toNatClampNeg ((16 : Int32) + p1)) ((st (Int32.toNatClampNeg ((16 : Int32) + p1))) ^^^ ((1 : Int32) <<< (p2 &&& 31)))) (Int32.toNatClampNeg ((16 : Int32) + p2)) (((upd st (Int32.toNatClampNeg ((16 : Int32) + p1)) ((st (Int32.toNatClampNeg ((16 : Int32) + p1))) ^^^ ((1 : Int32) <<< (p2 &&& 31)))) (Int32.toNatClampNeg ((16 : Int32) + p2))) ^^^ ((1 : Int32) <<< (p1 &&& 31))))) := hD
  cases hF
  exact hRet _ _ _ _ dX9_turnsEdge_30 hP hD hS
def fX9_edge (p1 : Int32) (p2 : Int32) (p3 : Int32) (deeds : Int32) (sd : Int32) (ent : Int32) (st : (Nat → Int32)) (past : (Nat → Int32)) : Option (Int32 × Int32 × (Nat → Int32) × (Nat → Int32)) := (ob1 (fX9_isItem p1 deeds sd ent st) (fun r_1 => (if r_1 = (0 : Int32) then (some ((-1000000001 : Int32), deeds, st, past)) else (ob1 (fX9_isItem p2 deeds sd ent st) (fun r_2 => (if r_2 = (0 : Int32) then (some ((-1000000001 : Int32), deeds, st, past)) else (if p1 = p2 then (some ((-1000000001 : Int32), deeds, st, past)) else (ob1 (fX9_in p3 (0 : Int32) (1 : Int32)) (fun r_3 => (if r_3 = (0 : Int32) then (some ((-1000000002 : Int32), deeds, st, past)) else (ob2 (fX9_notes deeds sd ent st past) (fun deeds_1 past_1 => (ogd ((16 : Int32) + p1) 76 (ob1 (fX9_has (st (Int32.toNatClampNeg ((16 : Int32) + p1))) p2) (fun r_4 => (ob1 (if p3 = (1 : Int32) then (some (1 : Int32)) else (some (0 : Int32))) (fun z0_1 => (ob1 (if r_4 = z0_1 then (some st) else (ob1 (fX9_turnsEdge p1 p2 deeds_1 sd ent st) (fun st_3 => (some st_3)))) (fun st_2 => (ob1 (fX9_edgesNow deeds_1 sd ent st_2) (fun r_5 => (some (r_5, deeds_1, st_2, past_1)))))))))))))))))))))))
abbrev wX9_edge (cI cZ cM cS : ClassId) (mo mst mpa mim mik mbi mbk mnr mia min mas mpr mfa mme mse : Nat) (deeds : Int32) (sd : Int32) (ent : Int32) (st : (Nat → Int32)) (past : (Nat → Int32)) : va_W := [(mo, .inr (9, [.ref mst, .ref mpa, .int deeds, .ref mim, .ref mik, .int sd, .ref mbi, .ref mbk, .int ent, .ref mnr, .ref mia, .ref min, .ref mas, .ref mpr, .ref mfa, .ref mme, .ref mse])), (mst, .inl (cI, 76, .inl st)), (mpa, .inl (cI, 1216, .inl past))]
set_option maxHeartbeats 4000000 in
set_option maxRecDepth 100000 in
theorem tX9_edge (l : Launch) (D : va_G) (cI cZ cM cS : ClassId) (mo mst mpa mim mik mbi mbk mnr mia min mas mpr mfa mme mse : Nat) (deeds : Int32) (sd : Int32) (ent : Int32) (st : (Nat → Int32)) (past : (Nat → Int32)) (p1 : Int32) (p2 : Int32) (p3 : Int32) {r : Int32} {deeds' : Int32} {st' : (Nat → Int32)} {past' : (Nat → Int32)} (hF : fX9_edge p1 p2 p3 deeds sd ent st past = some (r, deeds', st', past')) : zCW l yX9_edge wsX9_edge (zRm 2 45) D (zTy cI cZ cM cS) [.ref mo, .int p1, .int p2, .int p3] (wX9_edge cI cZ cM cS mo mst mpa mim mik mbi mbk mnr mia min mas mpr mfa mme mse deeds sd ent st past) (wX9_edge cI cZ cM cS mo mst mpa mim mik mbi mbk mnr mia min mas mpr mfa mme mse deeds' sd ent st' past') (some (.int r)) := by
  unfold fX9_edge at hF
  refine zCW_ofi (cc := cX9_edge) (maxL := 4) (own := RX9) (by decide) rfl rfl (Nat.le_of_ble_eq_true rfl) (fun p e s m args below meth c Q ls A E hA hK hP hD hRet hS hl => ?_)
  refine zgen (fun H locs hP hS => ?_) hP hS
  have hl : lv_has ls 4 [(0, .ref mo), (1, .int p1), (2, .int p2), (3, .int p3)] := hl
  obtain ⟨hx, hb, hml, hown, hts⟩ := id E
  have inX9 : ∀ w ∈ u_ws RX9 TX9 17, w ∈ wsX9_edge := by decide +kernel
  have fl7 := hts (.fieldLink RX9 7 "SplitClassesModel" "st" "[I") (by decide +kernel)
  have cn93 := hts (.constant RX9 93 (-1000000001)) (by decide +kernel)
  have cn94 := hts (.constant RX9 94 (-1000000002)) (by decide +kernel)
  refine lv_aload_n (pc := 0) hx hb dX9_edge_0 rfl (lv_at hl 0 rfl) ?_
  refine lv_iload_n (pc := 1) hx hb dX9_edge_1 rfl (lv_at hl 1 rfl) ?_
  obtain ⟨r_1, hC1, hF⟩ := ob1_e hF
  refine zVr (pc := 2) (As := [.int p1]) (rest := []) E (tX9_isItem l D cI cZ cM cS mo mst mpa mim mik mbi mbk mnr mia min mas mpr mfa mme mse deeds sd ent st p1 hC1) 1 gX9_edge_X9_isItem rfl rfl rfl (by decide +kernel) ⟨Nat.le_of_ble_eq_true rfl, Nat.le_of_ble_eq_true rfl⟩ hK hP [0, 1] rfl 0 9 rfl rfl rfl rfl hl.1 rfl (Nat.le_of_ble_eq_true rfl) dX9_edge_2 ⟨Nat.zero_le _, Nat.zero_le _⟩ ?_
  refine lv_if_eq (pc := 5) (tgt := 21) hx hb dX9_edge_5 (by decide) (fun hc => ?_) (fun hc => ?_)
  · have hF := oif_t hF hc
    refine lv_ldc (v := (-1000000001 : Int32)) (pc := 21) hx hb hown cn93 dX9_edge_21 ?_
    cases hF
    exact hRet _ _ _ _ rfl dX9_edge_23 hP hD hS
  · have hF := oif_f hF hc
    refine lv_aload_n (pc := 8) hx hb dX9_edge_8 rfl (lv_at hl 0 rfl) ?_
    refine lv_iload_n (pc := 9) hx hb dX9_edge_9 rfl (lv_at hl 2 rfl) ?_
    obtain ⟨r_2, hC2, hF⟩ := ob1_e hF
    refine zVr (pc := 10) (As := [.int p2]) (rest := []) E (tX9_isItem l D cI cZ cM cS mo mst mpa mim mik mbi mbk mnr mia min mas mpr mfa mme mse deeds sd ent st p2 hC2) 1 gX9_edge_X9_isItem rfl rfl rfl (by decide +kernel) ⟨Nat.le_of_ble_eq_true rfl, Nat.le_of_ble_eq_true rfl⟩ hK hP [0, 1] rfl 0 9 rfl rfl rfl rfl hl.1 rfl (Nat.le_of_ble_eq_true rfl) dX9_edge_10 ⟨Nat.zero_le _, Nat.zero_le _⟩ ?_
    refine lv_if_eq (pc := 13) (tgt := 21) hx hb dX9_edge_13 (by decide) (fun hc => ?_) (fun hc => ?_)
    · have hF := oif_t hF hc
      refine lv_ldc (v := (-1000000001 : Int32)) (pc := 21) hx hb hown cn93 dX9_edge_21 ?_
      cases hF
      exact hRet _ _ _ _ rfl dX9_edge_23 hP hD hS
    · have hF := oif_f hF hc
      refine lv_iload_n (pc := 16) hx hb dX9_edge_16 rfl (lv_at hl 1 rfl) ?_
      refine lv_iload_n (pc := 17) hx hb dX9_edge_17 rfl (lv_at hl 2 rfl) ?_
      refine lv_icmp_ne (pc := 18) (tgt := 24) hx hb dX9_edge_18 (by decide) (fun hc => ?_) (fun hc => ?_)
      · have hF := oif_f hF hc
        refine lv_iload_n (pc := 24) hx hb dX9_edge_24 rfl (lv_at hl 3 rfl) ?_
        refine lv_iconst (v := (0 : Int32)) (pc := 25) hx hb dX9_edge_25 (by decide) ?_
        refine lv_iconst (v := (1 : Int32)) (pc := 26) hx hb dX9_edge_26 (by decide) ?_
        obtain ⟨r_3, hC3, hF⟩ := ob1_e hF
        refine zSr (pc := 27) (As := [.int p3, .int (0 : Int32), .int (1 : Int32)]) (rest := []) E (tX9_in l D cI cZ cM cS p3 (0 : Int32) (1 : Int32) hC3) 3 gX9_edge_X9_in rfl rfl rfl (by decide +kernel) ⟨Nat.le_of_ble_eq_true rfl, Nat.le_of_ble_eq_true rfl⟩ hK hP [] rfl rfl hl.1 rfl (Nat.le_of_ble_eq_true rfl) dX9_edge_27 ⟨Nat.zero_le _, Nat.zero_le _⟩ ?_
        refine lv_if_ne (pc := 30) (tgt := 36) hx hb dX9_edge_30 (by decide) (fun hc => ?_) (fun hc => ?_)
        · have hF := oif_f hF hc
          refine lv_aload_n (pc := 36) hx hb dX9_edge_36 rfl (lv_at hl 0 rfl) ?_
          obtain ⟨deeds_1, past_1, hC4, hF⟩ := ob2_e hF
          refine zV (pc := 37) (As := []) (rest := []) (wr := []) (w2 := (wX9_edge cI cZ cM cS mo mst mpa mim mik mbi mbk mnr mia min mas mpr mfa mme mse deeds_1 sd ent st past_1)) E (tX9_notes l D cI cZ cM cS mo mst mpa mim mik mbi mbk mnr mia min mas mpr mfa mme mse deeds sd ent st past hC4) 0 gX9_edge_X9_notes rfl rfl rfl (by decide +kernel) ⟨Nat.le_of_ble_eq_true rfl, Nat.le_of_ble_eq_true rfl⟩ hK hP hD hS hA [0, 1, 2] [] [0, 1, 2] (by decide) rfl rfl (by decide) (by decide) rfl (by decide) 0 9 rfl rfl rfl rfl hl.1 rfl (Nat.le_of_ble_eq_true rfl) dX9_edge_37 ⟨Nat.zero_le _, Nat.zero_le _⟩ (fun H locs hP hD hS => ?_)
          refine W.eq (g2 := F0 m 40 ls []) rfl ?_
          refine lv_aload_n (pc := 40) hx hb dX9_edge_40 rfl (lv_at hl 0 rfl) ?_
          refine va_get (pc := 41) (ci := 9) (C := RX9) (T := TX9) (N := 17) hx hb hts inX9 hown hK hP 0 rfl rfl 0 (by decide) fl7 (fun _ h9 => h9) rfl dX9_edge_41 ?_
          refine lv_bipush (v := (16 : Int32)) (pc := 44) hx hb dX9_edge_44 (by decide) ?_
          refine lv_iload_n (pc := 46) hx hb dX9_edge_46 rfl (lv_at hl 1 rfl) ?_
          refine lv_iadd (pc := 47) hx hb dX9_edge_47 ?_
          obtain ⟨hg5, hF⟩ := ogd_e hF
          refine va_iald (pc := 48) hx hb hK hP 1 0 rfl rfl hg5 dX9_edge_48 ?_
          refine lv_iload_n (pc := 49) hx hb dX9_edge_49 rfl (lv_at hl 2 rfl) ?_
          obtain ⟨r_4, hC6, hF⟩ := ob1_e hF
          refine zSr (pc := 50) (As := [.int (st (Int32.toNatClampNeg ((16 : Int32) + p1))), .int p2]) (rest := []) E (tX9_has l D cI cZ cM cS (st (Int32.toNatClampNeg ((16 : Int32) + p1))) p2 hC6) 2 gX9_edge_X9_has rfl rfl rfl (by decide +kernel) ⟨Nat.le_of_ble_eq_true rfl, Nat.le_of_ble_eq_true rfl⟩ hK hP [] rfl rfl hl.1 rfl (Nat.le_of_ble_eq_true rfl) dX9_edge_50 ⟨Nat.zero_le _, Nat.zero_le _⟩ ?_
          refine lv_iload_n (pc := 53) hx hb dX9_edge_53 rfl (lv_at hl 3 rfl) ?_
          refine lv_iconst (v := (1 : Int32)) (pc := 54) hx hb dX9_edge_54 (by decide) ?_
          obtain ⟨z0_1, hM7, hF⟩ := ob1_e hF
          have jn7 : ∀ (H : Heap) (locs : List Loc) (ls : Array Slot), va_P D vwCl (wX9_edge cI cZ cM cS mo mst mpa mim mik mbi mbk mnr mia min mas mpr mfa mme mse deeds_1 sd ent st past_1) H → va_D A (wX9_edge cI cZ cM cS mo mst mpa mim mik mbi mbk mnr mia min mas mpr mfa mme mse deeds_1 sd ent st past_1) → va_S A s.heap H locs → lv_has ls 4 [(0, .ref mo), (1, .int p1), (2, .int p2)] → W p l e (zRm 2 45) s m args below meth c H locs 0 0 Q (F0 m 63 ls [.int z0_1, .int r_4]) := by
            intro H locs ls hP hD hS hl
            obtain ⟨st_2, hM9, hF⟩ := ob1_e hF
            have jn9 : ∀ (H : Heap) (locs : List Loc) (ls : Array Slot), va_P D vwCl (wX9_edge cI cZ cM cS mo mst mpa mim mik mbi mbk mnr mia min mas mpr mfa mme mse deeds_1 sd ent st_2 past_1) H → va_D A (wX9_edge cI cZ cM cS mo mst mpa mim mik mbi mbk mnr mia min mas mpr mfa mme mse deeds_1 sd ent st_2 past_1) → va_S A s.heap H locs → lv_has ls 4 [(0, .ref mo)] → W p l e (zRm 2 45) s m args below meth c H locs 0 0 Q (F0 m 72 ls []) := by
              intro H locs ls hP hD hS hl
              refine lv_aload_n (pc := 72) hx hb dX9_edge_72 rfl (lv_at hl 0 rfl) ?_
              obtain ⟨r_5, hC10, hF⟩ := ob1_e hF
              refine zVr (pc := 73) (As := []) (rest := []) E (tX9_edgesNow l D cI cZ cM cS mo mst mpa mim mik mbi mbk mnr mia min mas mpr mfa mme mse deeds_1 sd ent st_2 hC10) 0 gX9_edge_X9_edgesNow rfl rfl rfl (by decide +kernel) ⟨Nat.le_of_ble_eq_true rfl, Nat.le_of_ble_eq_true rfl⟩ hK hP [0, 1] rfl 0 9 rfl rfl rfl rfl hl.1 rfl (Nat.le_of_ble_eq_true rfl) dX9_edge_73 ⟨Nat.zero_le _, Nat.zero_le _⟩ ?_
              cases hF
              exact hRet _ _ _ _ rfl dX9_edge_76 hP hD hS
            refine lv_icmp_eq (pc := 63) (tgt := 72) hx hb dX9_edge_63 (by decide) (fun hc => ?_) (fun hc => ?_)
            · have hM9 := oif_t hM9 hc
              cases hM9
              exact jn9 _ _ _ hP hD hS (lv_sub hl [0] rfl)
            · have hM9 := oif_f hM9 hc
              refine lv_aload_n (pc := 66) hx hb dX9_edge_66 rfl (lv_at hl 0 rfl) ?_
              refine lv_iload_n (pc := 67) hx hb dX9_edge_67 rfl (lv_at hl 1 rfl) ?_
              refine lv_iload_n (pc := 68) hx hb dX9_edge_68 rfl (lv_at hl 2 rfl) ?_
              obtain ⟨st_3, hC11, hM9⟩ := ob1_e hM9
              refine zV (pc := 69) (As := [.int p1, .int p2]) (rest := []) (wr := [(mpa, .inl (cI, 1216, .inl past_1))]) (w2 := (wX9_edge cI cZ cM cS mo mst mpa mim mik mbi mbk mnr mia min mas mpr mfa mme mse deeds_1 sd ent st_3 past_1)) E (tX9_turnsEdge l D cI cZ cM cS mo mst mpa mim mik mbi mbk mnr mia min mas mpr mfa mme mse deeds_1 sd ent st p1 p2 hC11) 2 gX9_edge_X9_turnsEdge rfl rfl rfl (by decide +kernel) ⟨Nat.le_of_ble_eq_true rfl, Nat.le_of_ble_eq_true rfl⟩ hK hP hD hS hA [0, 1] [2] [1, 2, 0] (by decide) rfl rfl (by decide) (by decide) rfl (by decide) 0 9 rfl rfl rfl rfl hl.1 rfl (Nat.le_of_ble_eq_true rfl) dX9_edge_69 ⟨Nat.zero_le _, Nat.zero_le _⟩ (fun H locs hP hD hS => ?_)
              refine W.eq (g2 := F0 m 72 ls []) rfl ?_
              cases hM9
              exact jn9 _ _ _ hP hD hS (lv_sub hl [0] rfl)
          refine lv_icmp_ne (pc := 55) (tgt := 62) hx hb dX9_edge_55 (by decide) (fun hc => ?_) (fun hc => ?_)
          · have hM7 := oif_f hM7 hc
            refine lv_iconst (v := (0 : Int32)) (pc := 62) hx hb dX9_edge_62 (by decide) ?_
            cases hM7
            exact jn7 _ _ _ hP hD hS (lv_sub hl [0, 1, 2] rfl)
          · have hM7 := oif_t hM7 hc
            refine lv_iconst (v := (1 : Int32)) (pc := 58) hx hb dX9_edge_58 (by decide) ?_
            refine lv_goto (pc := 59) (tgt := 63) hx hb dX9_edge_59 (by decide) ?_
            cases hM7
            exact jn7 _ _ _ hP hD hS (lv_sub hl [0, 1, 2] rfl)
        · have hF := oif_t hF hc
          refine lv_ldc (v := (-1000000002 : Int32)) (pc := 33) hx hb hown cn94 dX9_edge_33 ?_
          cases hF
          exact hRet _ _ _ _ rfl dX9_edge_35 hP hD hS
      · have hF := oif_t hF hc
        refine lv_ldc (v := (-1000000001 : Int32)) (pc := 21) hx hb hown cn93 dX9_edge_21 ?_
        cases hF
        exact hRet _ _ _ _ rfl dX9_edge_23 hP hD hS
def fX9_columns (p1 : Int32) (p2 : Int32) (deeds : Int32) (sd : Int32) (ent : Int32) (st : (Nat → Int32)) (past : (Nat → Int32)) : Option (Int32 × Int32 × (Nat → Int32) × (Nat → Int32)) := (ob1 (fX9_isItem p1 deeds sd ent st) (fun r_1 => (if r_1 = (0 : Int32) then (some ((-1000000001 : Int32), deeds, st, past)) else (ob1 (fX9_in p2 (0 : Int32) (255 : Int32)) (fun r_2 => (if r_2 = (0 : Int32) then (some ((-1000000002 : Int32), deeds, st, past)) else (ob2 (fX9_notes deeds sd ent st past) (fun deeds_1 past_1 => (ogd ((4 : Int32) + p1) 76 (ogd ((4 : Int32) + p1) 76 (some ((st (Int32.toNatClampNeg ((4 : Int32) + p1))), deeds_1, (upd st (Int32.toNatClampNeg ((4 : Int32) + p1)) p2), past_1))))))))))))
abbrev wX9_columns (cI cZ cM cS : ClassId) (mo mst mpa mim mik mbi mbk mnr mia min mas mpr mfa mme mse : Nat) (deeds : Int32) (sd : Int32) (ent : Int32) (st : (Nat → Int32)) (past : (Nat → Int32)) : va_W := [(mo, .inr (9, [.ref mst, .ref mpa, .int deeds, .ref mim, .ref mik, .int sd, .ref mbi, .ref mbk, .int ent, .ref mnr, .ref mia, .ref min, .ref mas, .ref mpr, .ref mfa, .ref mme, .ref mse])), (mst, .inl (cI, 76, .inl st)), (mpa, .inl (cI, 1216, .inl past))]
set_option maxHeartbeats 4000000 in
set_option maxRecDepth 100000 in
theorem tX9_columns (l : Launch) (D : va_G) (cI cZ cM cS : ClassId) (mo mst mpa mim mik mbi mbk mnr mia min mas mpr mfa mme mse : Nat) (deeds : Int32) (sd : Int32) (ent : Int32) (st : (Nat → Int32)) (past : (Nat → Int32)) (p1 : Int32) (p2 : Int32) {r : Int32} {deeds' : Int32} {st' : (Nat → Int32)} {past' : (Nat → Int32)} (hF : fX9_columns p1 p2 deeds sd ent st past = some (r, deeds', st', past')) : zCW l yX9_columns wsX9_columns (zRm 2 45) D (zTy cI cZ cM cS) [.ref mo, .int p1, .int p2] (wX9_columns cI cZ cM cS mo mst mpa mim mik mbi mbk mnr mia min mas mpr mfa mme mse deeds sd ent st past) (wX9_columns cI cZ cM cS mo mst mpa mim mik mbi mbk mnr mia min mas mpr mfa mme mse deeds' sd ent st' past') (some (.int r)) := by
  unfold fX9_columns at hF
  refine zCW_ofi (cc := cX9_columns) (maxL := 4) (own := RX9) (by decide) rfl rfl (Nat.le_of_ble_eq_true rfl) (fun p e s m args below meth c Q ls A E hA hK hP hD hRet hS hl => ?_)
  refine zgen (fun H locs hP hS => ?_) hP hS
  have hl : lv_has ls 4 [(0, .ref mo), (1, .int p1), (2, .int p2)] := hl
  obtain ⟨hx, hb, hml, hown, hts⟩ := id E
  have inX9 : ∀ w ∈ u_ws RX9 TX9 17, w ∈ wsX9_columns := by decide +kernel
  have fl7 := hts (.fieldLink RX9 7 "SplitClassesModel" "st" "[I") (by decide +kernel)
  have cn93 := hts (.constant RX9 93 (-1000000001)) (by decide +kernel)
  have cn94 := hts (.constant RX9 94 (-1000000002)) (by decide +kernel)
  refine lv_aload_n (pc := 0) hx hb dX9_columns_0 rfl (lv_at hl 0 rfl) ?_
  refine lv_iload_n (pc := 1) hx hb dX9_columns_1 rfl (lv_at hl 1 rfl) ?_
  obtain ⟨r_1, hC1, hF⟩ := ob1_e hF
  refine zVr (pc := 2) (As := [.int p1]) (rest := []) E (tX9_isItem l D cI cZ cM cS mo mst mpa mim mik mbi mbk mnr mia min mas mpr mfa mme mse deeds sd ent st p1 hC1) 1 gX9_columns_X9_isItem rfl rfl rfl (by decide +kernel) ⟨Nat.le_of_ble_eq_true rfl, Nat.le_of_ble_eq_true rfl⟩ hK hP [0, 1] rfl 0 9 rfl rfl rfl rfl hl.1 rfl (Nat.le_of_ble_eq_true rfl) dX9_columns_2 ⟨Nat.zero_le _, Nat.zero_le _⟩ ?_
  refine lv_if_ne (pc := 5) (tgt := 11) hx hb dX9_columns_5 (by decide) (fun hc => ?_) (fun hc => ?_)
  · have hF := oif_f hF hc
    refine lv_iload_n (pc := 11) hx hb dX9_columns_11 rfl (lv_at hl 2 rfl) ?_
    refine lv_iconst (v := (0 : Int32)) (pc := 12) hx hb dX9_columns_12 (by decide) ?_
    refine lv_sipush (v := (255 : Int32)) (pc := 13) hx hb dX9_columns_13 (by decide) ?_
    obtain ⟨r_2, hC2, hF⟩ := ob1_e hF
    refine zSr (pc := 16) (As := [.int p2, .int (0 : Int32), .int (255 : Int32)]) (rest := []) E (tX9_in l D cI cZ cM cS p2 (0 : Int32) (255 : Int32) hC2) 3 gX9_columns_X9_in rfl rfl rfl (by decide +kernel) ⟨Nat.le_of_ble_eq_true rfl, Nat.le_of_ble_eq_true rfl⟩ hK hP [] rfl rfl hl.1 rfl (Nat.le_of_ble_eq_true rfl) dX9_columns_16 ⟨Nat.zero_le _, Nat.zero_le _⟩ ?_
    refine lv_if_ne (pc := 19) (tgt := 25) hx hb dX9_columns_19 (by decide) (fun hc => ?_) (fun hc => ?_)
    · have hF := oif_f hF hc
      refine lv_aload_n (pc := 25) hx hb dX9_columns_25 rfl (lv_at hl 0 rfl) ?_
      obtain ⟨deeds_1, past_1, hC3, hF⟩ := ob2_e hF
      refine zV (pc := 26) (As := []) (rest := []) (wr := []) (w2 := (wX9_columns cI cZ cM cS mo mst mpa mim mik mbi mbk mnr mia min mas mpr mfa mme mse deeds_1 sd ent st past_1)) E (tX9_notes l D cI cZ cM cS mo mst mpa mim mik mbi mbk mnr mia min mas mpr mfa mme mse deeds sd ent st past hC3) 0 gX9_columns_X9_notes rfl rfl rfl (by decide +kernel) ⟨Nat.le_of_ble_eq_true rfl, Nat.le_of_ble_eq_true rfl⟩ hK hP hD hS hA [0, 1, 2] [] [0, 1, 2] (by decide) rfl rfl (by decide) (by decide) rfl (by decide) 0 9 rfl rfl rfl rfl hl.1 rfl (Nat.le_of_ble_eq_true rfl) dX9_columns_26 ⟨Nat.zero_le _, Nat.zero_le _⟩ (fun H locs hP hD hS => ?_)
      refine W.eq (g2 := F0 m 29 ls []) rfl ?_
      refine lv_aload_n (pc := 29) hx hb dX9_columns_29 rfl (lv_at hl 0 rfl) ?_
      refine va_get (pc := 30) (ci := 9) (C := RX9) (T := TX9) (N := 17) hx hb hts inX9 hown hK hP 0 rfl rfl 0 (by decide) fl7 (fun _ h9 => h9) rfl dX9_columns_30 ?_
      refine lv_iconst (v := (4 : Int32)) (pc := 33) hx hb dX9_columns_33 (by decide) ?_
      refine lv_iload_n (pc := 34) hx hb dX9_columns_34 rfl (lv_at hl 1 rfl) ?_
      refine lv_iadd (pc := 35) hx hb dX9_columns_35 ?_
      obtain ⟨hg4, hF⟩ := ogd_e hF
      refine va_iald (pc := 36) hx hb hK hP 1 0 rfl rfl hg4 dX9_columns_36 ?_
      refine lv_istore_n (lv' := [(3, .int (st (Int32.toNatClampNeg ((4 : Int32) + p1)))), (0, .ref mo), (1, .int p1), (2, .int p2)]) (pc := 37) hx hb dX9_columns_37 rfl hl (by decide) rfl (fun ls hl => ?_)
      refine lv_aload_n (pc := 38) hx hb dX9_columns_38 rfl (lv_at hl 1 rfl) ?_
      refine va_get (pc := 39) (ci := 9) (C := RX9) (T := TX9) (N := 17) hx hb hts inX9 hown hK hP 0 rfl rfl 0 (by decide) fl7 (fun _ h9 => h9) rfl dX9_columns_39 ?_
      refine lv_iconst (v := (4 : Int32)) (pc := 42) hx hb dX9_columns_42 (by decide) ?_
      refine lv_iload_n (pc := 43) hx hb dX9_columns_43 rfl (lv_at hl 2 rfl) ?_
      refine lv_iadd (pc := 44) hx hb dX9_columns_44 ?_
      refine lv_iload_n (pc := 45) hx hb dX9_columns_45 rfl (lv_at hl 3 rfl) ?_
      obtain ⟨hg5, hF⟩ := ogd_e hF
      refine va_iast (pc := 46) hx hb hK hP hD hS 1 0 rfl rfl hg5 dX9_columns_46 (fun H locs hP hD hS => ?_)
      have hP : va_P D vwCl (wX9_columns cI cZ cM cS mo mst mpa mim mik mbi mbk mnr mia min mas mpr mfa mme mse deeds_1 sd ent (upd st (Int32.toNatClampNeg ((4 : Int32) + p1)) p2) past_1) H := hP
      have hD : va_D A (wX9_columns cI cZ cM cS mo mst mpa mim mik mbi mbk mnr mia min mas mpr mfa mme mse deeds_1 sd ent (upd st (Int32.toNatClampNeg ((4 : Int32) + p1)) p2) past_1) := hD
      refine lv_iload_n (pc := 47) hx hb dX9_columns_47 rfl (lv_at hl 0 rfl) ?_
      cases hF
      exact hRet _ _ _ _ rfl dX9_columns_48 hP hD hS
    · have hF := oif_t hF hc
      refine lv_ldc (v := (-1000000002 : Int32)) (pc := 22) hx hb hown cn94 dX9_columns_22 ?_
      cases hF
      exact hRet _ _ _ _ rfl dX9_columns_24 hP hD hS
  · have hF := oif_t hF hc
    refine lv_ldc (v := (-1000000001 : Int32)) (pc := 8) hx hb hown cn93 dX9_columns_8 ?_
    cases hF
    exact hRet _ _ _ _ rfl dX9_columns_10 hP hD hS
def fX9_letters_b34 (p1 : Int32) (x3_2 : Int32) (x4_4 : Int32) (st_8 : (Nat → Int32)) : Option ((Int32 × (Nat → Int32)) ⊕ ((Nat → Int32))) := (if p1 ≤ x4_4 then (some (.inr st_8)) else (ogd (((28 : Int32) + ((3 : Int32) * x3_2)) + x4_4) 76 (some (.inl ((x4_4 + (1 : Int32)), (upd st_8 (Int32.toNatClampNeg (((28 : Int32) + ((3 : Int32) * x3_2)) + x4_4)) x3_2))))))
def fX9_letters_s34 (p1 : Int32) (x3_2 : Int32) (sg_ : Int32 × (Nat → Int32)) : Option ((Int32 × (Nat → Int32)) ⊕ ((Nat → Int32))) := fX9_letters_b34 p1 x3_2 sg_.1 sg_.2
def fX9_letters_b25 (p1 : Int32) (st : (Nat → Int32)) (x3_2 : Int32) (st_5 : (Nat → Int32)) : Option ((Int32 × (Nat → Int32)) ⊕ ((Nat → Int32))) := (if (12 : Int32) ≤ x3_2 then (some (.inr st_5)) else (ob1 (olp (fX9_letters_s34 p1 x3_2) oFu ((st 1), st_5)) (fun st_9 => (some (.inl ((x3_2 + (1 : Int32)), st_9))))))
def fX9_letters_s25 (p1 : Int32) (st : (Nat → Int32)) (sg_ : Int32 × (Nat → Int32)) : Option ((Int32 × (Nat → Int32)) ⊕ ((Nat → Int32))) := fX9_letters_b25 p1 st sg_.1 sg_.2
def fX9_letters (p1 : Int32) (deeds : Int32) (sd : Int32) (ent : Int32) (st : (Nat → Int32)) (past : (Nat → Int32)) : Option (Int32 × Int32 × (Nat → Int32) × (Nat → Int32)) := (ob1 (fX9_in p1 (1 : Int32) (3 : Int32)) (fun r_1 => (if r_1 = (0 : Int32) then (some ((-1000000002 : Int32), deeds, st, past)) else (ob2 (fX9_notes deeds sd ent st past) (fun deeds_1 past_1 => (ob1 (olp (fX9_letters_s25 p1 st) oFu ((0 : Int32), st)) (fun st_6 => (some ((st 1), deeds_1, (upd st_6 1 p1), past_1)))))))))
abbrev wX9_letters (cI cZ cM cS : ClassId) (mo mst mpa mim mik mbi mbk mnr mia min mas mpr mfa mme mse : Nat) (deeds : Int32) (sd : Int32) (ent : Int32) (st : (Nat → Int32)) (past : (Nat → Int32)) : va_W := [(mo, .inr (9, [.ref mst, .ref mpa, .int deeds, .ref mim, .ref mik, .int sd, .ref mbi, .ref mbk, .int ent, .ref mnr, .ref mia, .ref min, .ref mas, .ref mpr, .ref mfa, .ref mme, .ref mse])), (mst, .inl (cI, 76, .inl st)), (mpa, .inl (cI, 1216, .inl past))]
set_option maxHeartbeats 4000000 in
set_option maxRecDepth 100000 in
theorem tX9_letters (l : Launch) (D : va_G) (cI cZ cM cS : ClassId) (mo mst mpa mim mik mbi mbk mnr mia min mas mpr mfa mme mse : Nat) (deeds : Int32) (sd : Int32) (ent : Int32) (st : (Nat → Int32)) (past : (Nat → Int32)) (p1 : Int32) {r : Int32} {deeds' : Int32} {st' : (Nat → Int32)} {past' : (Nat → Int32)} (hF : fX9_letters p1 deeds sd ent st past = some (r, deeds', st', past')) : zCW l yX9_letters wsX9_letters (zRm 2 45) D (zTy cI cZ cM cS) [.ref mo, .int p1] (wX9_letters cI cZ cM cS mo mst mpa mim mik mbi mbk mnr mia min mas mpr mfa mme mse deeds sd ent st past) (wX9_letters cI cZ cM cS mo mst mpa mim mik mbi mbk mnr mia min mas mpr mfa mme mse deeds' sd ent st' past') (some (.int r)) := by
  unfold fX9_letters at hF
  refine zCW_ofi (cc := cX9_letters) (maxL := 5) (own := RX9) (by decide) rfl rfl (Nat.le_of_ble_eq_true rfl) (fun p e s m args below meth c Q ls A E hA hK hP hD hRet hS hl => ?_)
  refine zgen (fun H locs hP hS => ?_) hP hS
  have hl : lv_has ls 5 [(0, .ref mo), (1, .int p1)] := hl
  obtain ⟨hx, hb, hml, hown, hts⟩ := id E
  have inX9 : ∀ w ∈ u_ws RX9 TX9 17, w ∈ wsX9_letters := by decide +kernel
  have fl7 := hts (.fieldLink RX9 7 "SplitClassesModel" "st" "[I") (by decide +kernel)
  have cn94 := hts (.constant RX9 94 (-1000000002)) (by decide +kernel)
  refine lv_iload_n (pc := 0) hx hb dX9_letters_0 rfl (lv_at hl 1 rfl) ?_
  refine lv_iconst (v := (1 : Int32)) (pc := 1) hx hb dX9_letters_1 (by decide) ?_
  refine lv_iconst (v := (3 : Int32)) (pc := 2) hx hb dX9_letters_2 (by decide) ?_
  obtain ⟨r_1, hC1, hF⟩ := ob1_e hF
  refine zSr (pc := 3) (As := [.int p1, .int (1 : Int32), .int (3 : Int32)]) (rest := []) E (tX9_in l D cI cZ cM cS p1 (1 : Int32) (3 : Int32) hC1) 3 gX9_letters_X9_in rfl rfl rfl (by decide +kernel) ⟨Nat.le_of_ble_eq_true rfl, Nat.le_of_ble_eq_true rfl⟩ hK hP [] rfl rfl hl.1 rfl (Nat.le_of_ble_eq_true rfl) dX9_letters_3 ⟨Nat.zero_le _, Nat.zero_le _⟩ ?_
  refine lv_if_ne (pc := 6) (tgt := 12) hx hb dX9_letters_6 (by decide) (fun hc => ?_) (fun hc => ?_)
  · have hF := oif_f hF hc
    refine lv_aload_n (pc := 12) hx hb dX9_letters_12 rfl (lv_at hl 0 rfl) ?_
    obtain ⟨deeds_1, past_1, hC2, hF⟩ := ob2_e hF
    refine zV (pc := 13) (As := []) (rest := []) (wr := []) (w2 := (wX9_letters cI cZ cM cS mo mst mpa mim mik mbi mbk mnr mia min mas mpr mfa mme mse deeds_1 sd ent st past_1)) E (tX9_notes l D cI cZ cM cS mo mst mpa mim mik mbi mbk mnr mia min mas mpr mfa mme mse deeds sd ent st past hC2) 0 gX9_letters_X9_notes rfl rfl rfl (by decide +kernel) ⟨Nat.le_of_ble_eq_true rfl, Nat.le_of_ble_eq_true rfl⟩ hK hP hD hS hA [0, 1, 2] [] [0, 1, 2] (by decide) rfl rfl (by decide) (by decide) rfl (by decide) 0 9 rfl rfl rfl rfl hl.1 rfl (Nat.le_of_ble_eq_true rfl) dX9_letters_13 ⟨Nat.zero_le _, Nat.zero_le _⟩ (fun H locs hP hD hS => ?_)
    refine W.eq (g2 := F0 m 16 ls []) rfl ?_
    refine lv_aload_n (pc := 16) hx hb dX9_letters_16 rfl (lv_at hl 0 rfl) ?_
    refine va_get (pc := 17) (ci := 9) (C := RX9) (T := TX9) (N := 17) hx hb hts inX9 hown hK hP 0 rfl rfl 0 (by decide) fl7 (fun _ h9 => h9) rfl dX9_letters_17 ?_
    refine lv_iconst (v := (1 : Int32)) (pc := 20) hx hb dX9_letters_20 (by decide) ?_
    refine z_iald (pc := 21) (k := 1) hx hb hK hP 1 0 rfl rfl (by decide) (by decide) dX9_letters_21 ?_
    refine lv_istore_n (lv' := [(2, .int (st 1)), (0, .ref mo), (1, .int p1)]) (pc := 22) hx hb dX9_letters_22 rfl hl (by decide) rfl (fun ls hl => ?_)
    refine lv_iconst (v := (0 : Int32)) (pc := 23) hx hb dX9_letters_23 (by decide) ?_
    refine lv_istore_n (lv' := [(3, .int (0 : Int32)), (2, .int (st 1)), (0, .ref mo), (1, .int p1)]) (pc := 24) hx hb dX9_letters_24 rfl hl (by decide) rfl (fun ls hl => ?_)
    obtain ⟨st_6, hL6, hF⟩ := ob1_e hF
    have ex6 : ∀ (H : Heap) (locs : List Loc) (ls : Array Slot), va_P D vwCl (wX9_letters cI cZ cM cS mo mst mpa mim mik mbi mbk mnr mia min mas mpr mfa mme mse deeds_1 sd ent st_6 past_1) H → va_D A (wX9_letters cI cZ cM cS mo mst mpa mim mik mbi mbk mnr mia min mas mpr mfa mme mse deeds_1 sd ent st_6 past_1) → va_S A s.heap H locs → lv_has ls 5 [(2, .int (st 1)), (0, .ref mo), (1, .int p1)] → W p l e (zRm 2 45) s m args below meth c H locs 0 0 Q (F0 m 67 ls []) := by
      intro H locs ls hP hD hS hl
      refine lv_aload_n (pc := 67) hx hb dX9_letters_67 rfl (lv_at hl 1 rfl) ?_
      refine va_get (pc := 68) (ci := 9) (C := RX9) (T := TX9) (N := 17) hx hb hts inX9 hown hK hP 0 rfl rfl 0 (by decide) fl7 (fun _ h9 => h9) rfl dX9_letters_68 ?_
      refine lv_iconst (v := (1 : Int32)) (pc := 71) hx hb dX9_letters_71 (by decide) ?_
      refine lv_iload_n (pc := 72) hx hb dX9_letters_72 rfl (lv_at hl 2 rfl) ?_
      refine z_iast (pc := 73) (k := 1) hx hb hK hP hD hS 1 0 rfl rfl (by decide) (by decide) dX9_letters_73 (fun H locs hP hD hS => ?_)
      have hP : va_P D vwCl (wX9_letters cI cZ cM cS mo mst mpa mim mik mbi mbk mnr mia min mas mpr mfa mme mse deeds_1 sd ent (upd st_6 1 p1) past_1) H := hP
      have hD : va_D A (wX9_letters cI cZ cM cS mo mst mpa mim mik mbi mbk mnr mia min mas mpr mfa mme mse deeds_1 sd ent (upd st_6 1 p1) past_1) := hD
      refine lv_iload_n (pc := 74) hx hb dX9_letters_74 rfl (lv_at hl 0 rfl) ?_
      cases hF
      exact hRet _ _ _ _ rfl dX9_letters_75 hP hD hS
    have lp6 : ∀ (n : Nat) (x3_2 : Int32) (st_5 : (Nat → Int32)) (H : Heap) (locs : List Loc) (ls : Array Slot), olp (fX9_letters_s25 p1 st) n (x3_2, st_5) = some st_6 → va_P D vwCl (wX9_letters cI cZ cM cS mo mst mpa mim mik mbi mbk mnr mia min mas mpr mfa mme mse deeds_1 sd ent st_5 past_1) H → va_D A (wX9_letters cI cZ cM cS mo mst mpa mim mik mbi mbk mnr mia min mas mpr mfa mme mse deeds_1 sd ent st_5 past_1) → va_S A s.heap H locs → lv_has ls 5 [(3, .int x3_2), (2, .int (st 1)), (0, .ref mo), (1, .int p1)] → W p l e (zRm 2 45) s m args below meth c H locs 0 0 Q (F0 m 25 ls []) := by
      intro n
      induction n with
      | zero => intro x3_2 st_5 H locs ls hL; exact olp_0 hL
      | succ n ih =>
        intro x3_2 st_5 H locs ls hL6 hP hD hS hl
        obtain ⟨z, hz6, hL6⟩ := olp_e hL6
        have hz6 : fX9_letters_b25 p1 st x3_2 st_5 = some z := hz6
        unfold fX9_letters_b25 at hz6
        refine lv_iload_n (pc := 25) hx hb dX9_letters_25 rfl (lv_at hl 0 rfl) ?_
        refine lv_bipush (v := (12 : Int32)) (pc := 26) hx hb dX9_letters_26 (by decide) ?_
        refine lv_icmp_ge (pc := 28) (tgt := 67) hx hb dX9_letters_28 (by decide) (fun hc => ?_) (fun hc => ?_)
        · have hz6 := oif_t hz6 hc
          have hE := olp_r hz6 hL6
          cases hE
          exact ex6 _ _ _ hP hD hS (lv_sub hl [1, 2, 3] rfl)
        · have hz6 := oif_f hz6 hc
          refine lv_iload_n (pc := 31) hx hb dX9_letters_31 rfl (lv_at hl 1 rfl) ?_
          refine lv_istore (lv' := [(4, .int (st 1)), (3, .int x3_2), (2, .int (st 1)), (0, .ref mo), (1, .int p1)]) (pc := 32) hx hb dX9_letters_32 hl (by decide) rfl (fun ls hl => ?_)
          obtain ⟨st_9, hL8, hz6⟩ := ob1_e hz6
          have ex8 : ∀ (H : Heap) (locs : List Loc) (ls : Array Slot), va_P D vwCl (wX9_letters cI cZ cM cS mo mst mpa mim mik mbi mbk mnr mia min mas mpr mfa mme mse deeds_1 sd ent st_9 past_1) H → va_D A (wX9_letters cI cZ cM cS mo mst mpa mim mik mbi mbk mnr mia min mas mpr mfa mme mse deeds_1 sd ent st_9 past_1) → va_S A s.heap H locs → lv_has ls 5 [(3, .int x3_2), (2, .int (st 1)), (0, .ref mo), (1, .int p1)] → W p l e (zRm 2 45) s m args below meth c H locs 0 0 Q (F0 m 61 ls []) := by
            intro H locs ls hP hD hS hl
            refine lv_iinc (v := (x3_2 + (1 : Int32))) (lv' := [(3, .int (x3_2 + (1 : Int32))), (2, .int (st 1)), (0, .ref mo), (1, .int p1)]) (pc := 61) hx hb dX9_letters_61 hl (k := 0) rfl rfl (by decide) rfl (fun ls hl => ?_)
            refine lv_goto (pc := 64) (tgt := 25) hx hb dX9_letters_64 (by decide) ?_
            exact ih _ _ _ _ _ (olp_l hz6 hL6) hP hD hS (lv_sub hl [0, 1, 2, 3] rfl)
          have lp8 : ∀ (n : Nat) (x4_4 : Int32) (st_8 : (Nat → Int32)) (H : Heap) (locs : List Loc) (ls : Array Slot), olp (fX9_letters_s34 p1 x3_2) n (x4_4, st_8) = some st_9 → va_P D vwCl (wX9_letters cI cZ cM cS mo mst mpa mim mik mbi mbk mnr mia min mas mpr mfa mme mse deeds_1 sd ent st_8 past_1) H → va_D A (wX9_letters cI cZ cM cS mo mst mpa mim mik mbi mbk mnr mia min mas mpr mfa mme mse deeds_1 sd ent st_8 past_1) → va_S A s.heap H locs → lv_has ls 5 [(4, .int x4_4), (3, .int x3_2), (2, .int (st 1)), (0, .ref mo), (1, .int p1)] → W p l e (zRm 2 45) s m args below meth c H locs 0 0 Q (F0 m 34 ls []) := by
            intro n
            induction n with
            | zero => intro x4_4 st_8 H locs ls hL; exact olp_0 hL
            | succ n ih =>
              intro x4_4 st_8 H locs ls hL8 hP hD hS hl
              obtain ⟨z, hz8, hL8⟩ := olp_e hL8
              have hz8 : fX9_letters_b34 p1 x3_2 x4_4 st_8 = some z := hz8
              unfold fX9_letters_b34 at hz8
              refine lv_iload (pc := 34) hx hb dX9_letters_34 (lv_at hl 0 rfl) ?_
              refine lv_iload_n (pc := 36) hx hb dX9_letters_36 rfl (lv_at hl 4 rfl) ?_
              refine lv_icmp_ge (pc := 37) (tgt := 61) hx hb dX9_letters_37 (by decide) (fun hc => ?_) (fun hc => ?_)
              · have hz8 := oif_t hz8 hc
                have hE := olp_r hz8 hL8
                cases hE
                exact ex8 _ _ _ hP hD hS (lv_sub hl [1, 2, 3, 4] rfl)
              · have hz8 := oif_f hz8 hc
                refine lv_aload_n (pc := 40) hx hb dX9_letters_40 rfl (lv_at hl 3 rfl) ?_
                refine va_get (pc := 41) (ci := 9) (C := RX9) (T := TX9) (N := 17) hx hb hts inX9 hown hK hP 0 rfl rfl 0 (by decide) fl7 (fun _ h9 => h9) rfl dX9_letters_41 ?_
                refine lv_bipush (v := (28 : Int32)) (pc := 44) hx hb dX9_letters_44 (by decide) ?_
                refine lv_iconst (v := (3 : Int32)) (pc := 46) hx hb dX9_letters_46 (by decide) ?_
                refine lv_iload_n (pc := 47) hx hb dX9_letters_47 rfl (lv_at hl 1 rfl) ?_
                refine lv_imul (pc := 48) hx hb dX9_letters_48 ?_
                refine lv_iadd (pc := 49) hx hb dX9_letters_49 ?_
                refine lv_iload (pc := 50) hx hb dX9_letters_50 (lv_at hl 0 rfl) ?_
                refine lv_iadd (pc := 52) hx hb dX9_letters_52 ?_
                refine lv_iload_n (pc := 53) hx hb dX9_letters_53 rfl (lv_at hl 1 rfl) ?_
                obtain ⟨hg9, hz8⟩ := ogd_e hz8
                refine va_iast (pc := 54) hx hb hK hP hD hS 1 0 rfl rfl hg9 dX9_letters_54 (fun H locs hP hD hS => ?_)
                have hP : va_P D vwCl (wX9_letters cI cZ cM cS mo mst mpa mim mik mbi mbk mnr mia min mas mpr mfa mme mse deeds_1 sd ent (upd st_8 (Int32.toNatClampNeg (((28 : Int32) + ((3 : Int32) * x3_2)) + x4_4)) x3_2) past_1) H := hP
                have hD : va_D A (wX9_letters cI cZ cM cS mo mst mpa mim mik mbi mbk mnr mia min mas mpr mfa mme mse deeds_1 sd ent (upd st_8 (Int32.toNatClampNeg (((28 : Int32) + ((3 : Int32) * x3_2)) + x4_4)) x3_2) past_1) := hD
                refine lv_iinc (v := (x4_4 + (1 : Int32))) (lv' := [(4, .int (x4_4 + (1 : Int32))), (3, .int x3_2), (2, .int (st 1)), (0, .ref mo), (1, .int p1)]) (pc := 55) hx hb dX9_letters_55 hl (k := 0) rfl rfl (by decide) rfl (fun ls hl => ?_)
                refine lv_goto (pc := 58) (tgt := 34) hx hb dX9_letters_58 (by decide) ?_
                exact ih _ _ _ _ _ (olp_l hz8 hL8) hP hD hS (lv_sub hl [0, 1, 2, 3, 4] rfl)
          exact lp8 oFu _ _ _ _ _ hL8 hP hD hS (lv_sub hl [0, 1, 2, 3, 4] rfl)
    exact lp6 oFu _ _ _ _ _ hL6 hP hD hS (lv_sub hl [0, 1, 2, 3] rfl)
  · have hF := oif_t hF hc
    refine lv_ldc (v := (-1000000002 : Int32)) (pc := 9) hx hb hown cn94 dX9_letters_9 ?_
    cases hF
    exact hRet _ _ _ _ rfl dX9_letters_11 hP hD hS
def fX9_goes (p1 : Int32) (p2 : Int32) (p3 : Int32) (deeds : Int32) (sd : Int32) (ent : Int32) (st : (Nat → Int32)) (past : (Nat → Int32)) : Option (Int32 × Int32 × (Nat → Int32) × (Nat → Int32)) := (ob1 (fX9_isItem p1 deeds sd ent st) (fun r_1 => (if r_1 = (0 : Int32) then (some ((-1000000001 : Int32), deeds, st, past)) else (ob1 (fX9_in p2 (0 : Int32) ((st 1) - (1 : Int32))) (fun r_2 => (if r_2 = (0 : Int32) then (some ((-1000000001 : Int32), deeds, st, past)) else (ob1 (fX9_isItem p3 deeds sd ent st) (fun r_3 => (if r_3 = (0 : Int32) then (some ((-1000000001 : Int32), deeds, st, past)) else (ob2 (fX9_notes deeds sd ent st past) (fun deeds_1 past_1 => (ogd (((28 : Int32) + ((3 : Int32) * p1)) + p2) 76 (onm (st (Int32.toNatClampNeg (((28 : Int32) + ((3 : Int32) * p1)) + p2))) (fun x4_1 => (ogd (((28 : Int32) + ((3 : Int32) * p1)) + p2) 76 (some (x4_1, deeds_1, (upd st (Int32.toNatClampNeg (((28 : Int32) + ((3 : Int32) * p1)) + p2)) p3), past_1)))))))))))))))))
abbrev wX9_goes (cI cZ cM cS : ClassId) (mo mst mpa mim mik mbi mbk mnr mia min mas mpr mfa mme mse : Nat) (deeds : Int32) (sd : Int32) (ent : Int32) (st : (Nat → Int32)) (past : (Nat → Int32)) : va_W := [(mo, .inr (9, [.ref mst, .ref mpa, .int deeds, .ref mim, .ref mik, .int sd, .ref mbi, .ref mbk, .int ent, .ref mnr, .ref mia, .ref min, .ref mas, .ref mpr, .ref mfa, .ref mme, .ref mse])), (mst, .inl (cI, 76, .inl st)), (mpa, .inl (cI, 1216, .inl past))]
set_option maxHeartbeats 4000000 in
set_option maxRecDepth 100000 in
theorem tX9_goes (l : Launch) (D : va_G) (cI cZ cM cS : ClassId) (mo mst mpa mim mik mbi mbk mnr mia min mas mpr mfa mme mse : Nat) (deeds : Int32) (sd : Int32) (ent : Int32) (st : (Nat → Int32)) (past : (Nat → Int32)) (p1 : Int32) (p2 : Int32) (p3 : Int32) {r : Int32} {deeds' : Int32} {st' : (Nat → Int32)} {past' : (Nat → Int32)} (hF : fX9_goes p1 p2 p3 deeds sd ent st past = some (r, deeds', st', past')) : zCW l yX9_goes wsX9_goes (zRm 2 45) D (zTy cI cZ cM cS) [.ref mo, .int p1, .int p2, .int p3] (wX9_goes cI cZ cM cS mo mst mpa mim mik mbi mbk mnr mia min mas mpr mfa mme mse deeds sd ent st past) (wX9_goes cI cZ cM cS mo mst mpa mim mik mbi mbk mnr mia min mas mpr mfa mme mse deeds' sd ent st' past') (some (.int r)) := by
  unfold fX9_goes at hF
  refine zCW_ofi (cc := cX9_goes) (maxL := 5) (own := RX9) (by decide) rfl rfl (Nat.le_of_ble_eq_true rfl) (fun p e s m args below meth c Q ls A E hA hK hP hD hRet hS hl => ?_)
  refine zgen (fun H locs hP hS => ?_) hP hS
  have hl : lv_has ls 5 [(0, .ref mo), (1, .int p1), (2, .int p2), (3, .int p3)] := hl
  obtain ⟨hx, hb, hml, hown, hts⟩ := id E
  have inX9 : ∀ w ∈ u_ws RX9 TX9 17, w ∈ wsX9_goes := by decide +kernel
  have fl7 := hts (.fieldLink RX9 7 "SplitClassesModel" "st" "[I") (by decide +kernel)
  have cn93 := hts (.constant RX9 93 (-1000000001)) (by decide +kernel)
  refine lv_aload_n (pc := 0) hx hb dX9_goes_0 rfl (lv_at hl 0 rfl) ?_
  refine lv_iload_n (pc := 1) hx hb dX9_goes_1 rfl (lv_at hl 1 rfl) ?_
  obtain ⟨r_1, hC1, hF⟩ := ob1_e hF
  refine zVr (pc := 2) (As := [.int p1]) (rest := []) E (tX9_isItem l D cI cZ cM cS mo mst mpa mim mik mbi mbk mnr mia min mas mpr mfa mme mse deeds sd ent st p1 hC1) 1 gX9_goes_X9_isItem rfl rfl rfl (by decide +kernel) ⟨Nat.le_of_ble_eq_true rfl, Nat.le_of_ble_eq_true rfl⟩ hK hP [0, 1] rfl 0 9 rfl rfl rfl rfl hl.1 rfl (Nat.le_of_ble_eq_true rfl) dX9_goes_2 ⟨Nat.zero_le _, Nat.zero_le _⟩ ?_
  refine lv_if_eq (pc := 5) (tgt := 32) hx hb dX9_goes_5 (by decide) (fun hc => ?_) (fun hc => ?_)
  · have hF := oif_t hF hc
    refine lv_ldc (v := (-1000000001 : Int32)) (pc := 32) hx hb hown cn93 dX9_goes_32 ?_
    cases hF
    exact hRet _ _ _ _ rfl dX9_goes_34 hP hD hS
  · have hF := oif_f hF hc
    refine lv_iload_n (pc := 8) hx hb dX9_goes_8 rfl (lv_at hl 2 rfl) ?_
    refine lv_iconst (v := (0 : Int32)) (pc := 9) hx hb dX9_goes_9 (by decide) ?_
    refine lv_aload_n (pc := 10) hx hb dX9_goes_10 rfl (lv_at hl 0 rfl) ?_
    refine va_get (pc := 11) (ci := 9) (C := RX9) (T := TX9) (N := 17) hx hb hts inX9 hown hK hP 0 rfl rfl 0 (by decide) fl7 (fun _ h9 => h9) rfl dX9_goes_11 ?_
    refine lv_iconst (v := (1 : Int32)) (pc := 14) hx hb dX9_goes_14 (by decide) ?_
    refine z_iald (pc := 15) (k := 1) hx hb hK hP 1 0 rfl rfl (by decide) (by decide) dX9_goes_15 ?_
    refine lv_iconst (v := (1 : Int32)) (pc := 16) hx hb dX9_goes_16 (by decide) ?_
    refine lv_isub (pc := 17) hx hb dX9_goes_17 ?_
    obtain ⟨r_2, hC2, hF⟩ := ob1_e hF
    refine zSr (pc := 18) (As := [.int p2, .int (0 : Int32), .int ((st 1) - (1 : Int32))]) (rest := []) E (tX9_in l D cI cZ cM cS p2 (0 : Int32) ((st 1) - (1 : Int32)) hC2) 3 gX9_goes_X9_in rfl rfl rfl (by decide +kernel) ⟨Nat.le_of_ble_eq_true rfl, Nat.le_of_ble_eq_true rfl⟩ hK hP [] rfl rfl hl.1 rfl (Nat.le_of_ble_eq_true rfl) dX9_goes_18 ⟨Nat.zero_le _, Nat.zero_le _⟩ ?_
    refine lv_if_eq (pc := 21) (tgt := 32) hx hb dX9_goes_21 (by decide) (fun hc => ?_) (fun hc => ?_)
    · have hF := oif_t hF hc
      refine lv_ldc (v := (-1000000001 : Int32)) (pc := 32) hx hb hown cn93 dX9_goes_32 ?_
      cases hF
      exact hRet _ _ _ _ rfl dX9_goes_34 hP hD hS
    · have hF := oif_f hF hc
      refine lv_aload_n (pc := 24) hx hb dX9_goes_24 rfl (lv_at hl 0 rfl) ?_
      refine lv_iload_n (pc := 25) hx hb dX9_goes_25 rfl (lv_at hl 3 rfl) ?_
      obtain ⟨r_3, hC3, hF⟩ := ob1_e hF
      refine zVr (pc := 26) (As := [.int p3]) (rest := []) E (tX9_isItem l D cI cZ cM cS mo mst mpa mim mik mbi mbk mnr mia min mas mpr mfa mme mse deeds sd ent st p3 hC3) 1 gX9_goes_X9_isItem rfl rfl rfl (by decide +kernel) ⟨Nat.le_of_ble_eq_true rfl, Nat.le_of_ble_eq_true rfl⟩ hK hP [0, 1] rfl 0 9 rfl rfl rfl rfl hl.1 rfl (Nat.le_of_ble_eq_true rfl) dX9_goes_26 ⟨Nat.zero_le _, Nat.zero_le _⟩ ?_
      refine lv_if_ne (pc := 29) (tgt := 35) hx hb dX9_goes_29 (by decide) (fun hc => ?_) (fun hc => ?_)
      · have hF := oif_f hF hc
        refine lv_aload_n (pc := 35) hx hb dX9_goes_35 rfl (lv_at hl 0 rfl) ?_
        obtain ⟨deeds_1, past_1, hC4, hF⟩ := ob2_e hF
        refine zV (pc := 36) (As := []) (rest := []) (wr := []) (w2 := (wX9_goes cI cZ cM cS mo mst mpa mim mik mbi mbk mnr mia min mas mpr mfa mme mse deeds_1 sd ent st past_1)) E (tX9_notes l D cI cZ cM cS mo mst mpa mim mik mbi mbk mnr mia min mas mpr mfa mme mse deeds sd ent st past hC4) 0 gX9_goes_X9_notes rfl rfl rfl (by decide +kernel) ⟨Nat.le_of_ble_eq_true rfl, Nat.le_of_ble_eq_true rfl⟩ hK hP hD hS hA [0, 1, 2] [] [0, 1, 2] (by decide) rfl rfl (by decide) (by decide) rfl (by decide) 0 9 rfl rfl rfl rfl hl.1 rfl (Nat.le_of_ble_eq_true rfl) dX9_goes_36 ⟨Nat.zero_le _, Nat.zero_le _⟩ (fun H locs hP hD hS => ?_)
        refine W.eq (g2 := F0 m 39 ls []) rfl ?_
        refine lv_aload_n (pc := 39) hx hb dX9_goes_39 rfl (lv_at hl 0 rfl) ?_
        refine va_get (pc := 40) (ci := 9) (C := RX9) (T := TX9) (N := 17) hx hb hts inX9 hown hK hP 0 rfl rfl 0 (by decide) fl7 (fun _ h9 => h9) rfl dX9_goes_40 ?_
        refine lv_bipush (v := (28 : Int32)) (pc := 43) hx hb dX9_goes_43 (by decide) ?_
        refine lv_iconst (v := (3 : Int32)) (pc := 45) hx hb dX9_goes_45 (by decide) ?_
        refine lv_iload_n (pc := 46) hx hb dX9_goes_46 rfl (lv_at hl 1 rfl) ?_
        refine lv_imul (pc := 47) hx hb dX9_goes_47 ?_
        refine lv_iadd (pc := 48) hx hb dX9_goes_48 ?_
        refine lv_iload_n (pc := 49) hx hb dX9_goes_49 rfl (lv_at hl 2 rfl) ?_
        refine lv_iadd (pc := 50) hx hb dX9_goes_50 ?_
        obtain ⟨hg5, hF⟩ := ogd_e hF
        refine va_iald (pc := 51) hx hb hK hP 1 0 rfl rfl hg5 dX9_goes_51 ?_
        refine lv_topi (fun x4_1 ex4_1 => ?_)
        have hF := onm_e hF x4_1 ex4_1
        refine lv_istore (lv' := [(4, .int x4_1), (0, .ref mo), (1, .int p1), (2, .int p2), (3, .int p3)]) (pc := 52) hx hb dX9_goes_52 hl (by decide) rfl (fun ls hl => ?_)
        refine lv_aload_n (pc := 54) hx hb dX9_goes_54 rfl (lv_at hl 1 rfl) ?_
        refine va_get (pc := 55) (ci := 9) (C := RX9) (T := TX9) (N := 17) hx hb hts inX9 hown hK hP 0 rfl rfl 0 (by decide) fl7 (fun _ h9 => h9) rfl dX9_goes_55 ?_
        refine lv_bipush (v := (28 : Int32)) (pc := 58) hx hb dX9_goes_58 (by decide) ?_
        refine lv_iconst (v := (3 : Int32)) (pc := 60) hx hb dX9_goes_60 (by decide) ?_
        refine lv_iload_n (pc := 61) hx hb dX9_goes_61 rfl (lv_at hl 2 rfl) ?_
        refine lv_imul (pc := 62) hx hb dX9_goes_62 ?_
        refine lv_iadd (pc := 63) hx hb dX9_goes_63 ?_
        refine lv_iload_n (pc := 64) hx hb dX9_goes_64 rfl (lv_at hl 3 rfl) ?_
        refine lv_iadd (pc := 65) hx hb dX9_goes_65 ?_
        refine lv_iload_n (pc := 66) hx hb dX9_goes_66 rfl (lv_at hl 4 rfl) ?_
        obtain ⟨hg6, hF⟩ := ogd_e hF
        refine va_iast (pc := 67) hx hb hK hP hD hS 1 0 rfl rfl hg6 dX9_goes_67 (fun H locs hP hD hS => ?_)
        have hP : va_P D vwCl (wX9_goes cI cZ cM cS mo mst mpa mim mik mbi mbk mnr mia min mas mpr mfa mme mse deeds_1 sd ent (upd st (Int32.toNatClampNeg (((28 : Int32) + ((3 : Int32) * p1)) + p2)) p3) past_1) H := hP
        have hD : va_D A (wX9_goes cI cZ cM cS mo mst mpa mim mik mbi mbk mnr mia min mas mpr mfa mme mse deeds_1 sd ent (upd st (Int32.toNatClampNeg (((28 : Int32) + ((3 : Int32) * p1)) + p2)) p3) past_1) := hD
        refine lv_iload (pc := 68) hx hb dX9_goes_68 (lv_at hl 0 rfl) ?_
        cases hF
        exact hRet _ _ _ _ rfl dX9_goes_70 hP hD hS
      · have hF := oif_t hF hc
        refine lv_ldc (v := (-1000000001 : Int32)) (pc := 32) hx hb hown cn93 dX9_goes_32 ?_
        cases hF
        exact hRet _ _ _ _ rfl dX9_goes_34 hP hD hS
def fX9_finals (p1 : Int32) (deeds : Int32) (sd : Int32) (ent : Int32) (st : (Nat → Int32)) (past : (Nat → Int32)) : Option (Int32 × Int32 × (Nat → Int32) × (Nat → Int32)) := (ob1 (fX9_isSet p1 deeds sd ent st) (fun r_1 => (if r_1 = (0 : Int32) then (some ((-1000000001 : Int32), deeds, st, past)) else (ob2 (fX9_notes deeds sd ent st past) (fun deeds_1 past_1 => (some ((st 2), deeds_1, (upd st 2 p1), past_1)))))))
abbrev wX9_finals (cI cZ cM cS : ClassId) (mo mst mpa mim mik mbi mbk mnr mia min mas mpr mfa mme mse : Nat) (deeds : Int32) (sd : Int32) (ent : Int32) (st : (Nat → Int32)) (past : (Nat → Int32)) : va_W := [(mo, .inr (9, [.ref mst, .ref mpa, .int deeds, .ref mim, .ref mik, .int sd, .ref mbi, .ref mbk, .int ent, .ref mnr, .ref mia, .ref min, .ref mas, .ref mpr, .ref mfa, .ref mme, .ref mse])), (mst, .inl (cI, 76, .inl st)), (mpa, .inl (cI, 1216, .inl past))]
set_option maxHeartbeats 4000000 in
set_option maxRecDepth 100000 in
theorem tX9_finals (l : Launch) (D : va_G) (cI cZ cM cS : ClassId) (mo mst mpa mim mik mbi mbk mnr mia min mas mpr mfa mme mse : Nat) (deeds : Int32) (sd : Int32) (ent : Int32) (st : (Nat → Int32)) (past : (Nat → Int32)) (p1 : Int32) {r : Int32} {deeds' : Int32} {st' : (Nat → Int32)} {past' : (Nat → Int32)} (hF : fX9_finals p1 deeds sd ent st past = some (r, deeds', st', past')) : zCW l yX9_finals wsX9_finals (zRm 2 45) D (zTy cI cZ cM cS) [.ref mo, .int p1] (wX9_finals cI cZ cM cS mo mst mpa mim mik mbi mbk mnr mia min mas mpr mfa mme mse deeds sd ent st past) (wX9_finals cI cZ cM cS mo mst mpa mim mik mbi mbk mnr mia min mas mpr mfa mme mse deeds' sd ent st' past') (some (.int r)) := by
  unfold fX9_finals at hF
  refine zCW_ofi (cc := cX9_finals) (maxL := 3) (own := RX9) (by decide) rfl rfl (Nat.le_of_ble_eq_true rfl) (fun p e s m args below meth c Q ls A E hA hK hP hD hRet hS hl => ?_)
  refine zgen (fun H locs hP hS => ?_) hP hS
  have hl : lv_has ls 3 [(0, .ref mo), (1, .int p1)] := hl
  obtain ⟨hx, hb, hml, hown, hts⟩ := id E
  have inX9 : ∀ w ∈ u_ws RX9 TX9 17, w ∈ wsX9_finals := by decide +kernel
  have fl7 := hts (.fieldLink RX9 7 "SplitClassesModel" "st" "[I") (by decide +kernel)
  have cn93 := hts (.constant RX9 93 (-1000000001)) (by decide +kernel)
  refine lv_aload_n (pc := 0) hx hb dX9_finals_0 rfl (lv_at hl 0 rfl) ?_
  refine lv_iload_n (pc := 1) hx hb dX9_finals_1 rfl (lv_at hl 1 rfl) ?_
  obtain ⟨r_1, hC1, hF⟩ := ob1_e hF
  refine zVr (pc := 2) (As := [.int p1]) (rest := []) E (tX9_isSet l D cI cZ cM cS mo mst mpa mim mik mbi mbk mnr mia min mas mpr mfa mme mse deeds sd ent st p1 hC1) 1 gX9_finals_X9_isSet rfl rfl rfl (by decide +kernel) ⟨Nat.le_of_ble_eq_true rfl, Nat.le_of_ble_eq_true rfl⟩ hK hP [0, 1] rfl 0 9 rfl rfl rfl rfl hl.1 rfl (Nat.le_of_ble_eq_true rfl) dX9_finals_2 ⟨Nat.zero_le _, Nat.zero_le _⟩ ?_
  refine lv_if_ne (pc := 5) (tgt := 11) hx hb dX9_finals_5 (by decide) (fun hc => ?_) (fun hc => ?_)
  · have hF := oif_f hF hc
    refine lv_aload_n (pc := 11) hx hb dX9_finals_11 rfl (lv_at hl 0 rfl) ?_
    obtain ⟨deeds_1, past_1, hC2, hF⟩ := ob2_e hF
    refine zV (pc := 12) (As := []) (rest := []) (wr := []) (w2 := (wX9_finals cI cZ cM cS mo mst mpa mim mik mbi mbk mnr mia min mas mpr mfa mme mse deeds_1 sd ent st past_1)) E (tX9_notes l D cI cZ cM cS mo mst mpa mim mik mbi mbk mnr mia min mas mpr mfa mme mse deeds sd ent st past hC2) 0 gX9_finals_X9_notes rfl rfl rfl (by decide +kernel) ⟨Nat.le_of_ble_eq_true rfl, Nat.le_of_ble_eq_true rfl⟩ hK hP hD hS hA [0, 1, 2] [] [0, 1, 2] (by decide) rfl rfl (by decide) (by decide) rfl (by decide) 0 9 rfl rfl rfl rfl hl.1 rfl (Nat.le_of_ble_eq_true rfl) dX9_finals_12 ⟨Nat.zero_le _, Nat.zero_le _⟩ (fun H locs hP hD hS => ?_)
    refine W.eq (g2 := F0 m 15 ls []) rfl ?_
    refine lv_aload_n (pc := 15) hx hb dX9_finals_15 rfl (lv_at hl 0 rfl) ?_
    refine va_get (pc := 16) (ci := 9) (C := RX9) (T := TX9) (N := 17) hx hb hts inX9 hown hK hP 0 rfl rfl 0 (by decide) fl7 (fun _ h9 => h9) rfl dX9_finals_16 ?_
    refine lv_iconst (v := (2 : Int32)) (pc := 19) hx hb dX9_finals_19 (by decide) ?_
    refine z_iald (pc := 20) (k := 2) hx hb hK hP 1 0 rfl rfl (by decide) (by decide) dX9_finals_20 ?_
    refine lv_istore_n (lv' := [(2, .int (st 2)), (0, .ref mo), (1, .int p1)]) (pc := 21) hx hb dX9_finals_21 rfl hl (by decide) rfl (fun ls hl => ?_)
    refine lv_aload_n (pc := 22) hx hb dX9_finals_22 rfl (lv_at hl 1 rfl) ?_
    refine va_get (pc := 23) (ci := 9) (C := RX9) (T := TX9) (N := 17) hx hb hts inX9 hown hK hP 0 rfl rfl 0 (by decide) fl7 (fun _ h9 => h9) rfl dX9_finals_23 ?_
    refine lv_iconst (v := (2 : Int32)) (pc := 26) hx hb dX9_finals_26 (by decide) ?_
    refine lv_iload_n (pc := 27) hx hb dX9_finals_27 rfl (lv_at hl 2 rfl) ?_
    refine z_iast (pc := 28) (k := 2) hx hb hK hP hD hS 1 0 rfl rfl (by decide) (by decide) dX9_finals_28 (fun H locs hP hD hS => ?_)
    have hP : va_P D vwCl (wX9_finals cI cZ cM cS mo mst mpa mim mik mbi mbk mnr mia min mas mpr mfa mme mse deeds_1 sd ent (upd st 2 p1) past_1) H := hP
    have hD : va_D A (wX9_finals cI cZ cM cS mo mst mpa mim mik mbi mbk mnr mia min mas mpr mfa mme mse deeds_1 sd ent (upd st 2 p1) past_1) := hD
    refine lv_iload_n (pc := 29) hx hb dX9_finals_29 rfl (lv_at hl 0 rfl) ?_
    cases hF
    exact hRet _ _ _ _ rfl dX9_finals_30 hP hD hS
  · have hF := oif_t hF hc
    refine lv_ldc (v := (-1000000001 : Int32)) (pc := 8) hx hb hown cn93 dX9_finals_8 ?_
    cases hF
    exact hRet _ _ _ _ rfl dX9_finals_10 hP hD hS
