def fX8_write (p1 : Int32) (p2 : Int32) (sn : Int32) (sl : Int32) (sfin : Int32) (swk : Int32) (kn : Int32) (kits : (Nat → Int32)) (kcls : (Nat → Int32)) : Option (Int32 × Int32 × (Nat → Int32) × (Nat → Int32)) := (ob1 (fX6_hasItem p1 sn sl sfin swk) (fun r_1 => (if r_1 = (0 : Int32) then (some ((-1000000001 : Int32), kn, kits, kcls)) else (if kn < (20 : Int32) then (ob3 (fX0_append p1 p2 kn kits kcls) (fun kn_1 kits_1 kcls_1 => (some (kn_1, kn_1, kits_1, kcls_1)))) else (some ((-1000000004 : Int32), kn, kits, kcls))))))
abbrev wX8_write (cI cZ cM cS : ClassId) (xo so ho ko ia fo wo zo dr sca sna sla sra ki kk : Nat) (sn : Int32) (sl : Int32) (sfin : Int32) (swk : Int32) (kn : Int32) (kits : (Nat → Int32)) (kcls : (Nat → Int32)) : va_W := [(xo, .inr (8, [.ref so, .ref ho, .ref ko, .ref ia, .ref fo, .ref wo, .ref zo, .ref dr])), (so, .inr (6, [.int sn, .int sl, .int sfin, .int swk, .ref sca, .ref sna, .ref sla, .ref sra])), (ko, .inr (0, [.ref ki, .ref kk, .int kn])), (ki, .inl (cI, 20, .inl kits)), (kk, .inl (cI, 20, .inl kcls))]
set_option maxHeartbeats 4000000 in
set_option maxRecDepth 100000 in
theorem tX8_write (l : Launch) (D : va_G) (cI cZ cM cS : ClassId) (xo so ho ko ia fo wo zo dr sca sna sla sra ki kk : Nat) (sn : Int32) (sl : Int32) (sfin : Int32) (swk : Int32) (kn : Int32) (kits : (Nat → Int32)) (kcls : (Nat → Int32)) (p1 : Int32) (p2 : Int32) {r : Int32} {kn' : Int32} {kits' : (Nat → Int32)} {kcls' : (Nat → Int32)} (hF : fX8_write p1 p2 sn sl sfin swk kn kits kcls = some (r, kn', kits', kcls')) : zCW l yX8_write wsX8_write (zRm 1 22) D (zTy cI cZ cM cS) [.ref xo, .int p1, .int p2] (wX8_write cI cZ cM cS xo so ho ko ia fo wo zo dr sca sna sla sra ki kk sn sl sfin swk kn kits kcls) (wX8_write cI cZ cM cS xo so ho ko ia fo wo zo dr sca sna sla sra ki kk sn sl sfin swk kn' kits' kcls') (some (.int r)) := by
  unfold fX8_write at hF
  refine zCW_ofi (cc := cX8_write) (maxL := 3) (own := RX8) (by decide) rfl rfl (Nat.le_of_ble_eq_true rfl) (fun p e s m args below meth c Q ls A E hA hK hP hD hRet hS hl => ?_)
  refine zgen (fun H locs hP hS => ?_) hP hS
  have hl : lv_has ls 3 [(0, .ref xo), (1, .int p1), (2, .int p2)] := hl
  obtain ⟨hx, hb, hml, hown, hts⟩ := id E
  have inX0 : ∀ w ∈ u_ws RX0 TX0 3, w ∈ wsX8_write := by decide +kernel
  have inX8 : ∀ w ∈ u_ws RX8 TX8 8, w ∈ wsX8_write := by decide +kernel
  have fl10 := hts (.fieldLink RX8 10 "SplitClasses" "now" "LSplitClasses$State;") (by decide +kernel)
  have fl103 := hts (.fieldLink RX8 103 "SplitClasses$Book" "size" "I") (by decide +kernel)
  have fl26 := hts (.fieldLink RX8 26 "SplitClasses" "book" "LSplitClasses$Book;") (by decide +kernel)
  have cn118 := hts (.constant RX8 118 (-1000000001)) (by decide +kernel)
  have cn226 := hts (.constant RX8 226 (-1000000004)) (by decide +kernel)
  refine lv_aload_n (pc := 0) hx hb dX8_write_0 rfl (lv_at hl 0 rfl) ?_
  refine va_get (pc := 1) (ci := 8) (C := RX8) (T := TX8) (N := 8) hx hb hts inX8 hown hK hP 0 rfl rfl 0 (by decide) fl10 (fun _ h9 => h9) rfl dX8_write_1 ?_
  refine lv_iload_n (pc := 4) hx hb dX8_write_4 rfl (lv_at hl 1 rfl) ?_
  obtain ⟨r_1, hC1, hF⟩ := ob1_e hF
  refine zVr (pc := 5) (As := [.int p1]) (rest := []) E (tX6_hasItem l D cI cZ cM cS so sca sna sla sra sn sl sfin swk p1 hC1) 1 gX8_write_X6_hasItem rfl rfl rfl (by decide +kernel) ⟨Nat.le_of_ble_eq_true rfl, Nat.le_of_ble_eq_true rfl⟩ hK hP [1] rfl 0 6 rfl rfl rfl rfl hl.1 rfl (Nat.le_of_ble_eq_true rfl) dX8_write_5 ⟨Nat.zero_le _, Nat.zero_le _⟩ ?_
  refine lv_if_ne (pc := 8) (tgt := 14) hx hb dX8_write_8 (by decide) (fun hc => ?_) (fun hc => ?_)
  · have hF := oif_f hF hc
    refine lv_aload_n (pc := 14) hx hb dX8_write_14 rfl (lv_at hl 0 rfl) ?_
    refine va_get (pc := 15) (ci := 8) (C := RX8) (T := TX8) (N := 8) hx hb hts inX8 hown hK hP 0 rfl rfl 2 (by decide) fl26 (fun _ h9 => h9) rfl dX8_write_15 ?_
    refine va_get (pc := 18) (ci := 0) (C := RX0) (T := TX0) (N := 3) hx hb hts inX0 hown hK hP 2 rfl rfl 2 (by decide) fl103 (fun _ h9 => h9) rfl dX8_write_18 ?_
    refine lv_bipush (v := (20 : Int32)) (pc := 21) hx hb dX8_write_21 (by decide) ?_
    refine lv_icmp_lt (pc := 23) (tgt := 29) hx hb dX8_write_23 (by decide) (fun hc => ?_) (fun hc => ?_)
    · have hF := oif_t hF hc
      refine lv_aload_n (pc := 29) hx hb dX8_write_29 rfl (lv_at hl 0 rfl) ?_
      refine va_get (pc := 30) (ci := 8) (C := RX8) (T := TX8) (N := 8) hx hb hts inX8 hown hK hP 0 rfl rfl 2 (by decide) fl26 (fun _ h9 => h9) rfl dX8_write_30 ?_
      refine lv_iload_n (pc := 33) hx hb dX8_write_33 rfl (lv_at hl 1 rfl) ?_
      refine lv_iload_n (pc := 34) hx hb dX8_write_34 rfl (lv_at hl 2 rfl) ?_
      obtain ⟨kn_1, kits_1, kcls_1, hC2, hF⟩ := ob3_e hF
      refine zV (pc := 35) (As := [.int p1, .int p2]) (rest := []) (wr := [(xo, .inr (8, [.ref so, .ref ho, .ref ko, .ref ia, .ref fo, .ref wo, .ref zo, .ref dr])), (so, .inr (6, [.int sn, .int sl, .int sfin, .int swk, .ref sca, .ref sna, .ref sla, .ref sra]))]) (w2 := (wX8_write cI cZ cM cS xo so ho ko ia fo wo zo dr sca sna sla sra ki kk sn sl sfin swk kn_1 kits_1 kcls_1)) E (tX0_append l D cI cZ cM cS ko ki kk kn kits kcls p1 p2 hC2) 2 gX8_write_X0_append rfl rfl rfl (by decide +kernel) ⟨Nat.le_of_ble_eq_true rfl, Nat.le_of_ble_eq_true rfl⟩ hK hP hD hS hA [2, 3, 4] [0, 1] [0, 1, 2, 3, 4] (by decide) rfl rfl (by decide) (by decide) rfl (by decide) 0 0 rfl rfl rfl rfl hl.1 rfl (Nat.le_of_ble_eq_true rfl) dX8_write_35 ⟨Nat.zero_le _, Nat.zero_le _⟩ (fun H locs hP hD hS => ?_)
      refine W.eq (g2 := F0 m 38 ls []) rfl ?_
      refine lv_aload_n (pc := 38) hx hb dX8_write_38 rfl (lv_at hl 0 rfl) ?_
      refine va_get (pc := 39) (ci := 8) (C := RX8) (T := TX8) (N := 8) hx hb hts inX8 hown hK hP 0 rfl rfl 2 (by decide) fl26 (fun _ h9 => h9) rfl dX8_write_39 ?_
      refine va_get (pc := 42) (ci := 0) (C := RX0) (T := TX0) (N := 3) hx hb hts inX0 hown hK hP 2 rfl rfl 2 (by decide) fl103 (fun _ h9 => h9) rfl dX8_write_42 ?_
      cases hF
      exact hRet _ _ _ _ rfl dX8_write_45 hP hD hS
    · have hF := oif_f hF hc
      refine lv_ldc (v := (-1000000004 : Int32)) (pc := 26) hx hb hown cn226 dX8_write_26 ?_
      cases hF
      exact hRet _ _ _ _ rfl dX8_write_28 hP hD hS
  · have hF := oif_t hF hc
    refine lv_ldc (v := (-1000000001 : Int32)) (pc := 11) hx hb hown cn118 dX8_write_11 ?_
    cases hF
    exact hRet _ _ _ _ rfl dX8_write_13 hP hD hS
def fX8_tear (kn : Int32) : Option (Int32 × Int32) := (some (kn, (0 : Int32)))
abbrev wX8_tear (cI cZ cM cS : ClassId) (xo so ho ko ia fo wo zo dr ki kk : Nat) (kn : Int32) : va_W := [(xo, .inr (8, [.ref so, .ref ho, .ref ko, .ref ia, .ref fo, .ref wo, .ref zo, .ref dr])), (ko, .inr (0, [.ref ki, .ref kk, .int kn]))]
set_option maxHeartbeats 4000000 in
set_option maxRecDepth 100000 in
theorem tX8_tear (l : Launch) (D : va_G) (cI cZ cM cS : ClassId) (xo so ho ko ia fo wo zo dr ki kk : Nat) (kn : Int32) {r : Int32} {kn' : Int32} (hF : fX8_tear kn = some (r, kn')) : zCW l yX8_tear wsX8_tear (zRm 0 0) D (zTy cI cZ cM cS) [.ref xo] (wX8_tear cI cZ cM cS xo so ho ko ia fo wo zo dr ki kk kn) (wX8_tear cI cZ cM cS xo so ho ko ia fo wo zo dr ki kk kn') (some (.int r)) := by
  unfold fX8_tear at hF
  refine zCW_ofi (cc := cX8_tear) (maxL := 2) (own := RX8) (by decide) rfl rfl (Nat.le_of_ble_eq_true rfl) (fun p e s m args below meth c Q ls A E hA hK hP hD hRet hS hl => ?_)
  refine zgen (fun H locs hP hS => ?_) hP hS
  have hl : lv_has ls 2 [(0, .ref xo)] := hl
  obtain ⟨hx, hb, hml, hown, hts⟩ := id E
  have inX0 : ∀ w ∈ u_ws RX0 TX0 3, w ∈ wsX8_tear := by decide +kernel
  have inX8 : ∀ w ∈ u_ws RX8 TX8 8, w ∈ wsX8_tear := by decide +kernel
  have fl103 := hts (.fieldLink RX8 103 "SplitClasses$Book" "size" "I") (by decide +kernel)
  have fl26 := hts (.fieldLink RX8 26 "SplitClasses" "book" "LSplitClasses$Book;") (by decide +kernel)
  refine lv_aload_n (pc := 0) hx hb dX8_tear_0 rfl (lv_at hl 0 rfl) ?_
  refine va_get (pc := 1) (ci := 8) (C := RX8) (T := TX8) (N := 8) hx hb hts inX8 hown hK hP 0 rfl rfl 2 (by decide) fl26 (fun _ h9 => h9) rfl dX8_tear_1 ?_
  refine va_get (pc := 4) (ci := 0) (C := RX0) (T := TX0) (N := 3) hx hb hts inX0 hown hK hP 1 rfl rfl 2 (by decide) fl103 (fun _ h9 => h9) rfl dX8_tear_4 ?_
  refine lv_istore_n (lv' := [(1, .int kn), (0, .ref xo)]) (pc := 7) hx hb dX8_tear_7 rfl hl (by decide) rfl (fun ls hl => ?_)
  refine lv_aload_n (pc := 8) hx hb dX8_tear_8 rfl (lv_at hl 1 rfl) ?_
  refine va_get (pc := 9) (ci := 8) (C := RX8) (T := TX8) (N := 8) hx hb hts inX8 hown hK hP 0 rfl rfl 2 (by decide) fl26 (fun _ h9 => h9) rfl dX8_tear_9 ?_
  refine lv_iconst (v := (0 : Int32)) (pc := 12) hx hb dX8_tear_12 (by decide) ?_
  refine va_put (pc := 13) (D := D) (ci := 0) (v := .int (0 : Int32)) (ty := .int) (C := RX0) (T := TX0) (N := 3) hx hb hts inX0 tyX0 tyX0_ok nmX0 hown hK hP hD hS 1 rfl rfl 2 (by decide) fl103 (fun _ h9 => h9) rfl (by decide +kernel) rfl rfl (Nat.le_of_ble_eq_true rfl) dX8_tear_13 (fun H locs hP hD hS => ?_)
  have hP : va_P D vwCl (wX8_tear cI cZ cM cS xo so ho ko ia fo wo zo dr ki kk (0 : Int32)) H := hP
  have hD : va_D A (wX8_tear cI cZ cM cS xo so ho ko ia fo wo zo dr ki kk (0 : Int32)) := hD
  refine lv_iload_n (pc := 16) hx hb dX8_tear_16 rfl (lv_at hl 0 rfl) ?_
  cases hF
  exact hRet _ _ _ _ rfl dX8_tear_17 hP hD hS
def fX8_seed (p1 : Int32) (dst : Int32) : Option (Int32 × Int32) := (if (0 : Int32) ≤ p1 then (some (dst, p1)) else (some ((-1000000002 : Int32), dst)))
abbrev wX8_seed (cI cZ cM cS : ClassId) (xo so ho ko ia fo wo zo dr : Nat) (dst : Int32) : va_W := [(xo, .inr (8, [.ref so, .ref ho, .ref ko, .ref ia, .ref fo, .ref wo, .ref zo, .ref dr])), (dr, .inr (1, [.int dst]))]
set_option maxHeartbeats 4000000 in
set_option maxRecDepth 100000 in
theorem tX8_seed (l : Launch) (D : va_G) (cI cZ cM cS : ClassId) (xo so ho ko ia fo wo zo dr : Nat) (dst : Int32) (p1 : Int32) {r : Int32} {dst' : Int32} (hF : fX8_seed p1 dst = some (r, dst')) : zCW l yX8_seed wsX8_seed (zRm 0 0) D (zTy cI cZ cM cS) [.ref xo, .int p1] (wX8_seed cI cZ cM cS xo so ho ko ia fo wo zo dr dst) (wX8_seed cI cZ cM cS xo so ho ko ia fo wo zo dr dst') (some (.int r)) := by
  unfold fX8_seed at hF
  refine zCW_ofi (cc := cX8_seed) (maxL := 3) (own := RX8) (by decide) rfl rfl (Nat.le_of_ble_eq_true rfl) (fun p e s m args below meth c Q ls A E hA hK hP hD hRet hS hl => ?_)
  refine zgen (fun H locs hP hS => ?_) hP hS
  have hl : lv_has ls 3 [(0, .ref xo), (1, .int p1)] := hl
  obtain ⟨hx, hb, hml, hown, hts⟩ := id E
  have inX1 : ∀ w ∈ u_ws RX1 TX1 1, w ∈ wsX8_seed := by decide +kernel
  have inX8 : ∀ w ∈ u_ws RX8 TX8 8, w ∈ wsX8_seed := by decide +kernel
  have fl110 := hts (.fieldLink RX8 110 "SplitClasses$Draws" "state" "I") (by decide +kernel)
  have fl61 := hts (.fieldLink RX8 61 "SplitClasses" "draws" "LSplitClasses$Draws;") (by decide +kernel)
  have cn113 := hts (.constant RX8 113 (-1000000002)) (by decide +kernel)
  refine lv_iload_n (pc := 0) hx hb dX8_seed_0 rfl (lv_at hl 1 rfl) ?_
  refine lv_if_ge (pc := 1) (tgt := 7) hx hb dX8_seed_1 (by decide) (fun hc => ?_) (fun hc => ?_)
  · have hF := oif_t hF hc
    refine lv_aload_n (pc := 7) hx hb dX8_seed_7 rfl (lv_at hl 0 rfl) ?_
    refine va_get (pc := 8) (ci := 8) (C := RX8) (T := TX8) (N := 8) hx hb hts inX8 hown hK hP 0 rfl rfl 7 (by decide) fl61 (fun _ h9 => h9) rfl dX8_seed_8 ?_
    refine va_get (pc := 11) (ci := 1) (C := RX1) (T := TX1) (N := 1) hx hb hts inX1 hown hK hP 1 rfl rfl 0 (by decide) fl110 (fun _ h9 => h9) rfl dX8_seed_11 ?_
    refine lv_istore_n (lv' := [(2, .int dst), (0, .ref xo), (1, .int p1)]) (pc := 14) hx hb dX8_seed_14 rfl hl (by decide) rfl (fun ls hl => ?_)
    refine lv_aload_n (pc := 15) hx hb dX8_seed_15 rfl (lv_at hl 1 rfl) ?_
    refine va_get (pc := 16) (ci := 8) (C := RX8) (T := TX8) (N := 8) hx hb hts inX8 hown hK hP 0 rfl rfl 7 (by decide) fl61 (fun _ h9 => h9) rfl dX8_seed_16 ?_
    refine lv_iload_n (pc := 19) hx hb dX8_seed_19 rfl (lv_at hl 2 rfl) ?_
    refine va_put (pc := 20) (D := D) (ci := 1) (v := .int p1) (ty := .int) (C := RX1) (T := TX1) (N := 1) hx hb hts inX1 tyX1 tyX1_ok nmX1 hown hK hP hD hS 1 rfl rfl 0 (by decide) fl110 (fun _ h9 => h9) rfl (by decide +kernel) rfl rfl (Nat.le_of_ble_eq_true rfl) dX8_seed_20 (fun H locs hP hD hS => ?_)
    have hP : va_P D vwCl (wX8_seed cI cZ cM cS xo so ho ko ia fo wo zo dr p1) H := hP
    have hD : va_D A (wX8_seed cI cZ cM cS xo so ho ko ia fo wo zo dr p1) := hD
    refine lv_iload_n (pc := 23) hx hb dX8_seed_23 rfl (lv_at hl 0 rfl) ?_
    cases hF
    exact hRet _ _ _ _ rfl dX8_seed_24 hP hD hS
  · have hF := oif_f hF hc
    refine lv_ldc (v := (-1000000002 : Int32)) (pc := 4) hx hb hown cn113 dX8_seed_4 ?_
    cases hF
    exact hRet _ _ _ _ rfl dX8_seed_6 hP hD hS
def fX8_keep_0 (sn : Int32) (sl : Int32) (sfin : Int32) (swk : Int32) (scols : (Nat → Int32)) (snear : (Nat → Int32)) (slds : (Nat → Int32)) (qc : Int32) (qf : (Nat → Int32)) (dst : Int32) (hnx : Int32) (hct : Int32) (k0 : Int32) (d0 : Int32) (man : Int32) (mal : Int32) (mafin : Int32) (mawk : Int32) (macols : (Nat → Int32)) (manear : (Nat → Int32)) (malds : (Nat → Int32)) (nac : Int32) (naf : (Nat → Int32)) : Option (Int32 × Int32 × Int32 × Int32 × Int32 × Int32 × Int32 × Int32 × (Nat → Int32) × (Nat → Int32) × (Nat → Int32) × Int32 × (Nat → Int32)) := (if (0 : Int32) < (0 : Int32) then (some ((-1000000001 : Int32), hct, k0, d0, man, mal, mafin, mawk, macols, manear, malds, nac, naf)) else (if (0 : Int32) < (2 : Int32) then (ob9 (fX6_copyFrom man mal mafin mawk macols manear malds nac naf sn sl sfin swk scols snear slds qc qf) (fun man_1 mal_1 mafin_1 mawk_1 macols_1 manear_1 malds_1 nac_1 naf_1 => (some ((1 : Int32), (0 : Int32), (1 : Int32), dst, man_1, mal_1, mafin_1, mawk_1, macols_1, manear_1, malds_1, nac_1, naf_1)))) else (some ((-1000000001 : Int32), hct, k0, d0, man, mal, mafin, mawk, macols, manear, malds, nac, naf))))
abbrev wX8_keep_0 (cI cZ cM cS : ClassId) (xo so ho ko ia fo wo zo dr sca sna sla sra qs rr i0 mao maca mana mala mara nas : Nat) (i1 : Nat) (sn : Int32) (sl : Int32) (sfin : Int32) (swk : Int32) (scols : (Nat → Int32)) (snear : (Nat → Int32)) (slds : (Nat → Int32)) (qc : Int32) (qf : (Nat → Int32)) (dst : Int32) (hnx : Int32) (hct : Int32) (k0 : Int32) (d0 : Int32) (man : Int32) (mal : Int32) (mafin : Int32) (mawk : Int32) (macols : (Nat → Int32)) (manear : (Nat → Int32)) (malds : (Nat → Int32)) (nac : Int32) (naf : (Nat → Int32)) : va_W := [(xo, .inr (8, [.ref so, .ref ho, .ref ko, .ref ia, .ref fo, .ref wo, .ref zo, .ref dr])), (so, .inr (6, [.int sn, .int sl, .int sfin, .int swk, .ref sca, .ref sna, .ref sla, .ref sra])), (sca, .inl (cI, 12, .inl scols)), (sna, .inl (cI, 12, .inl snear)), (sla, .inl (cI, 36, .inl slds)), (sra, .inr (5, [.ref qs, .int qc])), (qs, .inl (cI, 12, .inl qf)), (dr, .inr (1, [.int dst])), (ho, .inr (2, [.ref rr, .int hnx, .int hct])), (ia, .inl (cM, 2, .inr (.inr (.inr (.inr (va_up (va_up (fun _ => none) 0 (some i0)) 1 (some i1))))))), (i0, .inr (3, [.int k0, .int d0, .ref mao])), (mao, .inr (6, [.int man, .int mal, .int mafin, .int mawk, .ref maca, .ref mana, .ref mala, .ref mara])), (maca, .inl (cI, 12, .inl macols)), (mana, .inl (cI, 12, .inl manear)), (mala, .inl (cI, 36, .inl malds)), (mara, .inr (5, [.ref nas, .int nac])), (nas, .inl (cI, 12, .inl naf))]
set_option maxHeartbeats 4000000 in
set_option maxRecDepth 100000 in
theorem tX8_keep_0 (l : Launch) (D : va_G) (cI cZ cM cS : ClassId) (xo so ho ko ia fo wo zo dr sca sna sla sra qs rr i0 mao maca mana mala mara nas : Nat) (i1 : Nat) (sn : Int32) (sl : Int32) (sfin : Int32) (swk : Int32) (scols : (Nat → Int32)) (snear : (Nat → Int32)) (slds : (Nat → Int32)) (qc : Int32) (qf : (Nat → Int32)) (dst : Int32) (hnx : Int32) (hct : Int32) (k0 : Int32) (d0 : Int32) (man : Int32) (mal : Int32) (mafin : Int32) (mawk : Int32) (macols : (Nat → Int32)) (manear : (Nat → Int32)) (malds : (Nat → Int32)) (nac : Int32) (naf : (Nat → Int32)) {r : Int32} {hct' : Int32} {k0' : Int32} {d0' : Int32} {man' : Int32} {mal' : Int32} {mafin' : Int32} {mawk' : Int32} {macols' : (Nat → Int32)} {manear' : (Nat → Int32)} {malds' : (Nat → Int32)} {nac' : Int32} {naf' : (Nat → Int32)} (hF : fX8_keep_0 sn sl sfin swk scols snear slds qc qf dst hnx hct k0 d0 man mal mafin mawk macols manear malds nac naf = some (r, hct', k0', d0', man', mal', mafin', mawk', macols', manear', malds', nac', naf')) : zCW l yX8_keep wsX8_keep (zRm 3 90) D (zTy cI cZ cM cS) [.ref xo, .int (0 : Int32)] (wX8_keep_0 cI cZ cM cS xo so ho ko ia fo wo zo dr sca sna sla sra qs rr i0 mao maca mana mala mara nas i1 sn sl sfin swk scols snear slds qc qf dst hnx hct k0 d0 man mal mafin mawk macols manear malds nac naf) (wX8_keep_0 cI cZ cM cS xo so ho ko ia fo wo zo dr sca sna sla sra qs rr i0 mao maca mana mala mara nas i1 sn sl sfin swk scols snear slds qc qf dst hnx hct' k0' d0' man' mal' mafin' mawk' macols' manear' malds' nac' naf') (some (.int r)) := by
  unfold fX8_keep_0 at hF
  refine zCW_ofi (cc := cX8_keep) (maxL := 2) (own := RX8) (by decide) rfl rfl (Nat.le_of_ble_eq_true rfl) (fun p e s m args below meth c Q ls A E hA hK hP hD hRet hS hl => ?_)
  refine zgen (fun H locs hP hS => ?_) hP hS
  have hl : lv_has ls 2 [(0, .ref xo), (1, .int (0 : Int32))] := hl
  obtain ⟨hx, hb, hml, hown, hts⟩ := id E
  have inX1 : ∀ w ∈ u_ws RX1 TX1 1, w ∈ wsX8_keep := by decide +kernel
  have inX2 : ∀ w ∈ u_ws RX2 TX2 3, w ∈ wsX8_keep := by decide +kernel
  have inX3 : ∀ w ∈ u_ws RX3 TX3 3, w ∈ wsX8_keep := by decide +kernel
  have inX8 : ∀ w ∈ u_ws RX8 TX8 8, w ∈ wsX8_keep := by decide +kernel
  have fl10 := hts (.fieldLink RX8 10 "SplitClasses" "now" "LSplitClasses$State;") (by decide +kernel)
  have fl109 := hts (.fieldLink RX8 109 "SplitClasses$History" "count" "I") (by decide +kernel)
  have fl110 := hts (.fieldLink RX8 110 "SplitClasses$Draws" "state" "I") (by decide +kernel)
  have fl19 := hts (.fieldLink RX8 19 "SplitClasses" "history" "LSplitClasses$History;") (by decide +kernel)
  have fl230 := hts (.fieldLink RX8 230 "SplitClasses$Image" "kept" "Z") (by decide +kernel)
  have fl234 := hts (.fieldLink RX8 234 "SplitClasses$Image" "state" "LSplitClasses$State;") (by decide +kernel)
  have fl238 := hts (.fieldLink RX8 238 "SplitClasses$Image" "drawState" "I") (by decide +kernel)
  have fl32 := hts (.fieldLink RX8 32 "SplitClasses" "images" "[LSplitClasses$Image;") (by decide +kernel)
  have fl61 := hts (.fieldLink RX8 61 "SplitClasses" "draws" "LSplitClasses$Draws;") (by decide +kernel)
  have cn118 := hts (.constant RX8 118 (-1000000001)) (by decide +kernel)
  refine lv_iload_n (pc := 0) hx hb dX8_keep_0 rfl (lv_at hl 1 rfl) ?_
  refine lv_if_lt (pc := 1) (tgt := 9) hx hb dX8_keep_1 (by decide) (fun hc => ?_) (fun hc => ?_)
  · have hF := oif_t hF hc
    refine lv_ldc (v := (-1000000001 : Int32)) (pc := 9) hx hb hown cn118 dX8_keep_9 ?_
    cases hF
    exact hRet _ _ _ _ rfl dX8_keep_11 hP hD hS
  · have hF := oif_f hF hc
    refine lv_iload_n (pc := 4) hx hb dX8_keep_4 rfl (lv_at hl 1 rfl) ?_
    refine lv_iconst (v := (2 : Int32)) (pc := 5) hx hb dX8_keep_5 (by decide) ?_
    refine lv_icmp_lt (pc := 6) (tgt := 12) hx hb dX8_keep_6 (by decide) (fun hc => ?_) (fun hc => ?_)
    · have hF := oif_t hF hc
      refine lv_aload_n (pc := 12) hx hb dX8_keep_12 rfl (lv_at hl 0 rfl) ?_
      refine va_get (pc := 13) (ci := 8) (C := RX8) (T := TX8) (N := 8) hx hb hts inX8 hown hK hP 0 rfl rfl 3 (by decide) fl32 (fun _ h9 => h9) rfl dX8_keep_13 ?_
      refine lv_iload_n (pc := 16) hx hb dX8_keep_16 rfl (lv_at hl 1 rfl) ?_
      refine va_aldq (pc := 17) hx hb hK hP 9 2 rfl rfl (show ¬ ((0 : Int32) < 0 ∨ 2 ≤ Int32.toNatClampNeg (0 : Int32)) by decide) dX8_keep_17 ?_
      refine W.eq (g2 := F0 m 18 ls [.ref i0]) rfl ?_
      refine lv_iconst (v := (1 : Int32)) (pc := 18) hx hb dX8_keep_18 (by decide) ?_
      refine va_put (pc := 19) (D := D) (ci := 3) (v := .int (1 : Int32)) (ty := .boolean) (C := RX3) (T := TX3) (N := 3) hx hb hts inX3 tyX3 tyX3_ok nmX3 hown hK hP hD hS 10 rfl rfl 0 (by decide) fl230 (fun _ h9 => h9) rfl (by decide +kernel) rfl rfl (Nat.le_of_ble_eq_true rfl) dX8_keep_19 (fun H locs hP hD hS => ?_)
      have hP : va_P D vwCl (wX8_keep_0 cI cZ cM cS xo so ho ko ia fo wo zo dr sca sna sla sra qs rr i0 mao maca mana mala mara nas i1 sn sl sfin swk scols snear slds qc qf dst hnx hct (1 : Int32) d0 man mal mafin mawk macols manear malds nac naf) H := hP
      have hD : va_D A (wX8_keep_0 cI cZ cM cS xo so ho ko ia fo wo zo dr sca sna sla sra qs rr i0 mao maca mana mala mara nas i1 sn sl sfin swk scols snear slds qc qf dst hnx hct (1 : Int32) d0 man mal mafin mawk macols manear malds nac naf) := hD
      refine lv_aload_n (pc := 22) hx hb dX8_keep_22 rfl (lv_at hl 0 rfl) ?_
      refine va_get (pc := 23) (ci := 8) (C := RX8) (T := TX8) (N := 8) hx hb hts inX8 hown hK hP 0 rfl rfl 3 (by decide) fl32 (fun _ h9 => h9) rfl dX8_keep_23 ?_
      refine lv_iload_n (pc := 26) hx hb dX8_keep_26 rfl (lv_at hl 1 rfl) ?_
      refine va_aldq (pc := 27) hx hb hK hP 9 2 rfl rfl (show ¬ ((0 : Int32) < 0 ∨ 2 ≤ Int32.toNatClampNeg (0 : Int32)) by decide) dX8_keep_27 ?_
      refine W.eq (g2 := F0 m 28 ls [.ref i0]) rfl ?_
      refine va_get (pc := 28) (ci := 3) (C := RX3) (T := TX3) (N := 3) hx hb hts inX3 hown hK hP 10 rfl rfl 2 (by decide) fl234 (fun _ h9 => h9) rfl dX8_keep_28 ?_
      refine lv_aload_n (pc := 31) hx hb dX8_keep_31 rfl (lv_at hl 0 rfl) ?_
      refine va_get (pc := 32) (ci := 8) (C := RX8) (T := TX8) (N := 8) hx hb hts inX8 hown hK hP 0 rfl rfl 0 (by decide) fl10 (fun _ h9 => h9) rfl dX8_keep_32 ?_
      obtain ⟨man_1, mal_1, mafin_1, mawk_1, macols_1, manear_1, malds_1, nac_1, naf_1, hC1, hF⟩ := ob9_e hF
      refine zV (pc := 35) (As := [.ref so]) (rest := []) (wr := [(xo, .inr (8, [.ref so, .ref ho, .ref ko, .ref ia, .ref fo, .ref wo, .ref zo, .ref dr])), (dr, .inr (1, [.int dst])), (ho, .inr (2, [.ref rr, .int hnx, .int hct])), (ia, .inl (cM, 2, .inr (.inr (.inr (.inr (va_up (va_up (fun _ => none) 0 (some i0)) 1 (some i1))))))), (i0, .inr (3, [.int (1 : Int32), .int d0, .ref mao]))]) (w2 := (wX8_keep_0 cI cZ cM cS xo so ho ko ia fo wo zo dr sca sna sla sra qs rr i0 mao maca mana mala mara nas i1 sn sl sfin swk scols snear slds qc qf dst hnx hct (1 : Int32) d0 man_1 mal_1 mafin_1 mawk_1 macols_1 manear_1 malds_1 nac_1 naf_1)) E (tX6_copyFrom l D cI cZ cM cS mao maca mana mala mara nas so sca sna sla sra qs man mal mafin mawk macols manear malds nac naf sn sl sfin swk scols snear slds qc qf hC1) 1 gX8_keep_X6_copyFrom rfl rfl rfl (by decide +kernel) ⟨Nat.le_of_ble_eq_true rfl, Nat.le_of_ble_eq_true rfl⟩ hK hP hD hS hA [11, 12, 13, 14, 15, 16, 1, 2, 3, 4, 5, 6] [0, 7, 8, 9, 10] [0, 11, 12, 13, 14, 15, 16, 1, 2, 3, 4, 5, 6, 7, 8, 9, 10] (by decide) rfl rfl (by decide) (by decide) rfl (by decide) 0 6 rfl rfl rfl rfl hl.1 rfl (Nat.le_of_ble_eq_true rfl) dX8_keep_35 ⟨Nat.zero_le _, Nat.zero_le _⟩ (fun H locs hP hD hS => ?_)
      refine W.eq (g2 := F0 m 38 ls []) rfl ?_
      refine lv_aload_n (pc := 38) hx hb dX8_keep_38 rfl (lv_at hl 0 rfl) ?_
      refine va_get (pc := 39) (ci := 8) (C := RX8) (T := TX8) (N := 8) hx hb hts inX8 hown hK hP 0 rfl rfl 3 (by decide) fl32 (fun _ h9 => h9) rfl dX8_keep_39 ?_
      refine lv_iload_n (pc := 42) hx hb dX8_keep_42 rfl (lv_at hl 1 rfl) ?_
      refine va_aldq (pc := 43) hx hb hK hP 9 2 rfl rfl (show ¬ ((0 : Int32) < 0 ∨ 2 ≤ Int32.toNatClampNeg (0 : Int32)) by decide) dX8_keep_43 ?_
      refine W.eq (g2 := F0 m 44 ls [.ref i0]) rfl ?_
      refine lv_aload_n (pc := 44) hx hb dX8_keep_44 rfl (lv_at hl 0 rfl) ?_
      refine va_get (pc := 45) (ci := 8) (C := RX8) (T := TX8) (N := 8) hx hb hts inX8 hown hK hP 0 rfl rfl 7 (by decide) fl61 (fun _ h9 => h9) rfl dX8_keep_45 ?_
      refine va_get (pc := 48) (ci := 1) (C := RX1) (T := TX1) (N := 1) hx hb hts inX1 hown hK hP 7 rfl rfl 0 (by decide) fl110 (fun _ h9 => h9) rfl dX8_keep_48 ?_
      refine va_put (pc := 51) (D := D) (ci := 3) (v := .int dst) (ty := .int) (C := RX3) (T := TX3) (N := 3) hx hb hts inX3 tyX3 tyX3_ok nmX3 hown hK hP hD hS 10 rfl rfl 1 (by decide) fl238 (fun _ h9 => h9) rfl (by decide +kernel) rfl rfl (Nat.le_of_ble_eq_true rfl) dX8_keep_51 (fun H locs hP hD hS => ?_)
      have hP : va_P D vwCl (wX8_keep_0 cI cZ cM cS xo so ho ko ia fo wo zo dr sca sna sla sra qs rr i0 mao maca mana mala mara nas i1 sn sl sfin swk scols snear slds qc qf dst hnx hct (1 : Int32) dst man_1 mal_1 mafin_1 mawk_1 macols_1 manear_1 malds_1 nac_1 naf_1) H := hP
      have hD : va_D A (wX8_keep_0 cI cZ cM cS xo so ho ko ia fo wo zo dr sca sna sla sra qs rr i0 mao maca mana mala mara nas i1 sn sl sfin swk scols snear slds qc qf dst hnx hct (1 : Int32) dst man_1 mal_1 mafin_1 mawk_1 macols_1 manear_1 malds_1 nac_1 naf_1) := hD
      refine lv_aload_n (pc := 54) hx hb dX8_keep_54 rfl (lv_at hl 0 rfl) ?_
      refine va_get (pc := 55) (ci := 8) (C := RX8) (T := TX8) (N := 8) hx hb hts inX8 hown hK hP 0 rfl rfl 1 (by decide) fl19 (fun _ h9 => h9) rfl dX8_keep_55 ?_
      refine lv_iconst (v := (0 : Int32)) (pc := 58) hx hb dX8_keep_58 (by decide) ?_
      refine va_put (pc := 59) (D := D) (ci := 2) (v := .int (0 : Int32)) (ty := .int) (C := RX2) (T := TX2) (N := 3) hx hb hts inX2 tyX2 tyX2_ok nmX2 hown hK hP hD hS 8 rfl rfl 2 (by decide) fl109 (fun _ h9 => h9) rfl (by decide +kernel) rfl rfl (Nat.le_of_ble_eq_true rfl) dX8_keep_59 (fun H locs hP hD hS => ?_)
      have hP : va_P D vwCl (wX8_keep_0 cI cZ cM cS xo so ho ko ia fo wo zo dr sca sna sla sra qs rr i0 mao maca mana mala mara nas i1 sn sl sfin swk scols snear slds qc qf dst hnx (0 : Int32) (1 : Int32) dst man_1 mal_1 mafin_1 mawk_1 macols_1 manear_1 malds_1 nac_1 naf_1) H := hP
      have hD : va_D A (wX8_keep_0 cI cZ cM cS xo so ho ko ia fo wo zo dr sca sna sla sra qs rr i0 mao maca mana mala mara nas i1 sn sl sfin swk scols snear slds qc qf dst hnx (0 : Int32) (1 : Int32) dst man_1 mal_1 mafin_1 mawk_1 macols_1 manear_1 malds_1 nac_1 naf_1) := hD
      refine lv_iconst (v := (1 : Int32)) (pc := 62) hx hb dX8_keep_62 (by decide) ?_
      cases hF
      exact hRet _ _ _ _ rfl dX8_keep_63 hP hD hS
    · have hF := oif_f hF hc
      refine lv_ldc (v := (-1000000001 : Int32)) (pc := 9) hx hb hown cn118 dX8_keep_9 ?_
      cases hF
      exact hRet _ _ _ _ rfl dX8_keep_11 hP hD hS
def fX8_goBack_0 (sn : Int32) (sl : Int32) (sfin : Int32) (swk : Int32) (scols : (Nat → Int32)) (snear : (Nat → Int32)) (slds : (Nat → Int32)) (qc : Int32) (qf : (Nat → Int32)) (dst : Int32) (hnx : Int32) (hct : Int32) (k0 : Int32) (d0 : Int32) (man : Int32) (mal : Int32) (mafin : Int32) (mawk : Int32) (macols : (Nat → Int32)) (manear : (Nat → Int32)) (malds : (Nat → Int32)) (nac : Int32) (naf : (Nat → Int32)) : Option (Int32 × Int32 × Int32 × Int32 × Int32 × (Nat → Int32) × (Nat → Int32) × (Nat → Int32) × Int32 × (Nat → Int32) × Int32 × Int32) := (if (0 : Int32) < (0 : Int32) then (some ((-1000000001 : Int32), sn, sl, sfin, swk, scols, snear, slds, qc, qf, dst, hct)) else (if (0 : Int32) < (2 : Int32) then (if k0 = (0 : Int32) then (some ((-1000000003 : Int32), sn, sl, sfin, swk, scols, snear, slds, qc, qf, dst, hct)) else (ob9 (fX6_copyFrom sn sl sfin swk scols snear slds qc qf man mal mafin mawk macols manear malds nac naf) (fun sn_1 sl_1 sfin_1 swk_1 scols_1 snear_1 slds_1 qc_1 qf_1 => (some ((1 : Int32), sn_1, sl_1, sfin_1, swk_1, scols_1, snear_1, slds_1, qc_1, qf_1, d0, (0 : Int32)))))) else (some ((-1000000001 : Int32), sn, sl, sfin, swk, scols, snear, slds, qc, qf, dst, hct))))
abbrev wX8_goBack_0 (cI cZ cM cS : ClassId) (xo so ho ko ia fo wo zo dr sca sna sla sra qs rr i0 mao maca mana mala mara nas : Nat) (i1 : Nat) (sn : Int32) (sl : Int32) (sfin : Int32) (swk : Int32) (scols : (Nat → Int32)) (snear : (Nat → Int32)) (slds : (Nat → Int32)) (qc : Int32) (qf : (Nat → Int32)) (dst : Int32) (hnx : Int32) (hct : Int32) (k0 : Int32) (d0 : Int32) (man : Int32) (mal : Int32) (mafin : Int32) (mawk : Int32) (macols : (Nat → Int32)) (manear : (Nat → Int32)) (malds : (Nat → Int32)) (nac : Int32) (naf : (Nat → Int32)) : va_W := [(xo, .inr (8, [.ref so, .ref ho, .ref ko, .ref ia, .ref fo, .ref wo, .ref zo, .ref dr])), (so, .inr (6, [.int sn, .int sl, .int sfin, .int swk, .ref sca, .ref sna, .ref sla, .ref sra])), (sca, .inl (cI, 12, .inl scols)), (sna, .inl (cI, 12, .inl snear)), (sla, .inl (cI, 36, .inl slds)), (sra, .inr (5, [.ref qs, .int qc])), (qs, .inl (cI, 12, .inl qf)), (dr, .inr (1, [.int dst])), (ho, .inr (2, [.ref rr, .int hnx, .int hct])), (ia, .inl (cM, 2, .inr (.inr (.inr (.inr (va_up (va_up (fun _ => none) 0 (some i0)) 1 (some i1))))))), (i0, .inr (3, [.int k0, .int d0, .ref mao])), (mao, .inr (6, [.int man, .int mal, .int mafin, .int mawk, .ref maca, .ref mana, .ref mala, .ref mara])), (maca, .inl (cI, 12, .inl macols)), (mana, .inl (cI, 12, .inl manear)), (mala, .inl (cI, 36, .inl malds)), (mara, .inr (5, [.ref nas, .int nac])), (nas, .inl (cI, 12, .inl naf))]
set_option maxHeartbeats 4000000 in
set_option maxRecDepth 100000 in
theorem tX8_goBack_0 (l : Launch) (D : va_G) (cI cZ cM cS : ClassId) (xo so ho ko ia fo wo zo dr sca sna sla sra qs rr i0 mao maca mana mala mara nas : Nat) (i1 : Nat) (sn : Int32) (sl : Int32) (sfin : Int32) (swk : Int32) (scols : (Nat → Int32)) (snear : (Nat → Int32)) (slds : (Nat → Int32)) (qc : Int32) (qf : (Nat → Int32)) (dst : Int32) (hnx : Int32) (hct : Int32) (k0 : Int32) (d0 : Int32) (man : Int32) (mal : Int32) (mafin : Int32) (mawk : Int32) (macols : (Nat → Int32)) (manear : (Nat → Int32)) (malds : (Nat → Int32)) (nac : Int32) (naf : (Nat → Int32)) {r : Int32} {sn' : Int32} {sl' : Int32} {sfin' : Int32} {swk' : Int32} {scols' : (Nat → Int32)} {snear' : (Nat → Int32)} {slds' : (Nat → Int32)} {qc' : Int32} {qf' : (Nat → Int32)} {dst' : Int32} {hct' : Int32} (hF : fX8_goBack_0 sn sl sfin swk scols snear slds qc qf dst hnx hct k0 d0 man mal mafin mawk macols manear malds nac naf = some (r, sn', sl', sfin', swk', scols', snear', slds', qc', qf', dst', hct')) : zCW l yX8_goBack wsX8_goBack (zRm 3 90) D (zTy cI cZ cM cS) [.ref xo, .int (0 : Int32)] (wX8_goBack_0 cI cZ cM cS xo so ho ko ia fo wo zo dr sca sna sla sra qs rr i0 mao maca mana mala mara nas i1 sn sl sfin swk scols snear slds qc qf dst hnx hct k0 d0 man mal mafin mawk macols manear malds nac naf) (wX8_goBack_0 cI cZ cM cS xo so ho ko ia fo wo zo dr sca sna sla sra qs rr i0 mao maca mana mala mara nas i1 sn' sl' sfin' swk' scols' snear' slds' qc' qf' dst' hnx hct' k0 d0 man mal mafin mawk macols manear malds nac naf) (some (.int r)) := by
  unfold fX8_goBack_0 at hF
  refine zCW_ofi (cc := cX8_goBack) (maxL := 2) (own := RX8) (by decide) rfl rfl (Nat.le_of_ble_eq_true rfl) (fun p e s m args below meth c Q ls A E hA hK hP hD hRet hS hl => ?_)
  refine zgen (fun H locs hP hS => ?_) hP hS
  have hl : lv_has ls 2 [(0, .ref xo), (1, .int (0 : Int32))] := hl
  obtain ⟨hx, hb, hml, hown, hts⟩ := id E
  have inX1 : ∀ w ∈ u_ws RX1 TX1 1, w ∈ wsX8_goBack := by decide +kernel
  have inX2 : ∀ w ∈ u_ws RX2 TX2 3, w ∈ wsX8_goBack := by decide +kernel
  have inX3 : ∀ w ∈ u_ws RX3 TX3 3, w ∈ wsX8_goBack := by decide +kernel
  have inX8 : ∀ w ∈ u_ws RX8 TX8 8, w ∈ wsX8_goBack := by decide +kernel
  have fl10 := hts (.fieldLink RX8 10 "SplitClasses" "now" "LSplitClasses$State;") (by decide +kernel)
  have fl109 := hts (.fieldLink RX8 109 "SplitClasses$History" "count" "I") (by decide +kernel)
  have fl110 := hts (.fieldLink RX8 110 "SplitClasses$Draws" "state" "I") (by decide +kernel)
  have fl19 := hts (.fieldLink RX8 19 "SplitClasses" "history" "LSplitClasses$History;") (by decide +kernel)
  have fl230 := hts (.fieldLink RX8 230 "SplitClasses$Image" "kept" "Z") (by decide +kernel)
  have fl234 := hts (.fieldLink RX8 234 "SplitClasses$Image" "state" "LSplitClasses$State;") (by decide +kernel)
  have fl238 := hts (.fieldLink RX8 238 "SplitClasses$Image" "drawState" "I") (by decide +kernel)
  have fl32 := hts (.fieldLink RX8 32 "SplitClasses" "images" "[LSplitClasses$Image;") (by decide +kernel)
  have fl61 := hts (.fieldLink RX8 61 "SplitClasses" "draws" "LSplitClasses$Draws;") (by decide +kernel)
  have cn118 := hts (.constant RX8 118 (-1000000001)) (by decide +kernel)
  have cn221 := hts (.constant RX8 221 (-1000000003)) (by decide +kernel)
  refine lv_iload_n (pc := 0) hx hb dX8_goBack_0 rfl (lv_at hl 1 rfl) ?_
  refine lv_if_lt (pc := 1) (tgt := 9) hx hb dX8_goBack_1 (by decide) (fun hc => ?_) (fun hc => ?_)
  · have hF := oif_t hF hc
    refine lv_ldc (v := (-1000000001 : Int32)) (pc := 9) hx hb hown cn118 dX8_goBack_9 ?_
    cases hF
    exact hRet _ _ _ _ rfl dX8_goBack_11 hP hD hS
  · have hF := oif_f hF hc
    refine lv_iload_n (pc := 4) hx hb dX8_goBack_4 rfl (lv_at hl 1 rfl) ?_
    refine lv_iconst (v := (2 : Int32)) (pc := 5) hx hb dX8_goBack_5 (by decide) ?_
    refine lv_icmp_lt (pc := 6) (tgt := 12) hx hb dX8_goBack_6 (by decide) (fun hc => ?_) (fun hc => ?_)
    · have hF := oif_t hF hc
      refine lv_aload_n (pc := 12) hx hb dX8_goBack_12 rfl (lv_at hl 0 rfl) ?_
      refine va_get (pc := 13) (ci := 8) (C := RX8) (T := TX8) (N := 8) hx hb hts inX8 hown hK hP 0 rfl rfl 3 (by decide) fl32 (fun _ h9 => h9) rfl dX8_goBack_13 ?_
      refine lv_iload_n (pc := 16) hx hb dX8_goBack_16 rfl (lv_at hl 1 rfl) ?_
      refine va_aldq (pc := 17) hx hb hK hP 9 2 rfl rfl (show ¬ ((0 : Int32) < 0 ∨ 2 ≤ Int32.toNatClampNeg (0 : Int32)) by decide) dX8_goBack_17 ?_
      refine W.eq (g2 := F0 m 18 ls [.ref i0]) rfl ?_
      refine va_get (pc := 18) (ci := 3) (C := RX3) (T := TX3) (N := 3) hx hb hts inX3 hown hK hP 10 rfl rfl 0 (by decide) fl230 (fun _ h9 => h9) rfl dX8_goBack_18 ?_
      refine lv_if_ne (pc := 21) (tgt := 27) hx hb dX8_goBack_21 (by decide) (fun hc => ?_) (fun hc => ?_)
      · have hF := oif_f hF hc
        refine lv_aload_n (pc := 27) hx hb dX8_goBack_27 rfl (lv_at hl 0 rfl) ?_
        refine va_get (pc := 28) (ci := 8) (C := RX8) (T := TX8) (N := 8) hx hb hts inX8 hown hK hP 0 rfl rfl 0 (by decide) fl10 (fun _ h9 => h9) rfl dX8_goBack_28 ?_
        refine lv_aload_n (pc := 31) hx hb dX8_goBack_31 rfl (lv_at hl 0 rfl) ?_
        refine va_get (pc := 32) (ci := 8) (C := RX8) (T := TX8) (N := 8) hx hb hts inX8 hown hK hP 0 rfl rfl 3 (by decide) fl32 (fun _ h9 => h9) rfl dX8_goBack_32 ?_
        refine lv_iload_n (pc := 35) hx hb dX8_goBack_35 rfl (lv_at hl 1 rfl) ?_
        refine va_aldq (pc := 36) hx hb hK hP 9 2 rfl rfl (show ¬ ((0 : Int32) < 0 ∨ 2 ≤ Int32.toNatClampNeg (0 : Int32)) by decide) dX8_goBack_36 ?_
        refine W.eq (g2 := F0 m 37 ls [.ref i0, .ref so]) rfl ?_
        refine va_get (pc := 37) (ci := 3) (C := RX3) (T := TX3) (N := 3) hx hb hts inX3 hown hK hP 10 rfl rfl 2 (by decide) fl234 (fun _ h9 => h9) rfl dX8_goBack_37 ?_
        obtain ⟨sn_1, sl_1, sfin_1, swk_1, scols_1, snear_1, slds_1, qc_1, qf_1, hC1, hF⟩ := ob9_e hF
        refine zV (pc := 40) (As := [.ref mao]) (rest := []) (wr := [(xo, .inr (8, [.ref so, .ref ho, .ref ko, .ref ia, .ref fo, .ref wo, .ref zo, .ref dr])), (dr, .inr (1, [.int dst])), (ho, .inr (2, [.ref rr, .int hnx, .int hct])), (ia, .inl (cM, 2, .inr (.inr (.inr (.inr (va_up (va_up (fun _ => none) 0 (some i0)) 1 (some i1))))))), (i0, .inr (3, [.int k0, .int d0, .ref mao]))]) (w2 := (wX8_goBack_0 cI cZ cM cS xo so ho ko ia fo wo zo dr sca sna sla sra qs rr i0 mao maca mana mala mara nas i1 sn_1 sl_1 sfin_1 swk_1 scols_1 snear_1 slds_1 qc_1 qf_1 dst hnx hct k0 d0 man mal mafin mawk macols manear malds nac naf)) E (tX6_copyFrom l D cI cZ cM cS so sca sna sla sra qs mao maca mana mala mara nas sn sl sfin swk scols snear slds qc qf man mal mafin mawk macols manear malds nac naf hC1) 1 gX8_goBack_X6_copyFrom rfl rfl rfl (by decide +kernel) ⟨Nat.le_of_ble_eq_true rfl, Nat.le_of_ble_eq_true rfl⟩ hK hP hD hS hA [1, 2, 3, 4, 5, 6, 11, 12, 13, 14, 15, 16] [0, 7, 8, 9, 10] [0, 5, 6, 7, 8, 9, 10, 1, 2, 3, 4, 11, 12, 13, 14, 15, 16] (by decide) rfl rfl (by decide) (by decide) rfl (by decide) 0 6 rfl rfl rfl rfl hl.1 rfl (Nat.le_of_ble_eq_true rfl) dX8_goBack_40 ⟨Nat.zero_le _, Nat.zero_le _⟩ (fun H locs hP hD hS => ?_)
        refine W.eq (g2 := F0 m 43 ls []) rfl ?_
        refine lv_aload_n (pc := 43) hx hb dX8_goBack_43 rfl (lv_at hl 0 rfl) ?_
        refine va_get (pc := 44) (ci := 8) (C := RX8) (T := TX8) (N := 8) hx hb hts inX8 hown hK hP 0 rfl rfl 7 (by decide) fl61 (fun _ h9 => h9) rfl dX8_goBack_44 ?_
        refine lv_aload_n (pc := 47) hx hb dX8_goBack_47 rfl (lv_at hl 0 rfl) ?_
        refine va_get (pc := 48) (ci := 8) (C := RX8) (T := TX8) (N := 8) hx hb hts inX8 hown hK hP 0 rfl rfl 3 (by decide) fl32 (fun _ h9 => h9) rfl dX8_goBack_48 ?_
        refine lv_iload_n (pc := 51) hx hb dX8_goBack_51 rfl (lv_at hl 1 rfl) ?_
        refine va_aldq (pc := 52) hx hb hK hP 9 2 rfl rfl (show ¬ ((0 : Int32) < 0 ∨ 2 ≤ Int32.toNatClampNeg (0 : Int32)) by decide) dX8_goBack_52 ?_
        refine W.eq (g2 := F0 m 53 ls [.ref i0, .ref dr]) rfl ?_
        refine va_get (pc := 53) (ci := 3) (C := RX3) (T := TX3) (N := 3) hx hb hts inX3 hown hK hP 10 rfl rfl 1 (by decide) fl238 (fun _ h9 => h9) rfl dX8_goBack_53 ?_
        refine va_put (pc := 56) (D := D) (ci := 1) (v := .int d0) (ty := .int) (C := RX1) (T := TX1) (N := 1) hx hb hts inX1 tyX1 tyX1_ok nmX1 hown hK hP hD hS 7 rfl rfl 0 (by decide) fl110 (fun _ h9 => h9) rfl (by decide +kernel) rfl rfl (Nat.le_of_ble_eq_true rfl) dX8_goBack_56 (fun H locs hP hD hS => ?_)
        have hP : va_P D vwCl (wX8_goBack_0 cI cZ cM cS xo so ho ko ia fo wo zo dr sca sna sla sra qs rr i0 mao maca mana mala mara nas i1 sn_1 sl_1 sfin_1 swk_1 scols_1 snear_1 slds_1 qc_1 qf_1 d0 hnx hct k0 d0 man mal mafin mawk macols manear malds nac naf) H := hP
        have hD : va_D A (wX8_goBack_0 cI cZ cM cS xo so ho ko ia fo wo zo dr sca sna sla sra qs rr i0 mao maca mana mala mara nas i1 sn_1 sl_1 sfin_1 swk_1 scols_1 snear_1 slds_1 qc_1 qf_1 d0 hnx hct k0 d0 man mal mafin mawk macols manear malds nac naf) := hD
        refine lv_aload_n (pc := 59) hx hb dX8_goBack_59 rfl (lv_at hl 0 rfl) ?_
        refine va_get (pc := 60) (ci := 8) (C := RX8) (T := TX8) (N := 8) hx hb hts inX8 hown hK hP 0 rfl rfl 1 (by decide) fl19 (fun _ h9 => h9) rfl dX8_goBack_60 ?_
        refine lv_iconst (v := (0 : Int32)) (pc := 63) hx hb dX8_goBack_63 (by decide) ?_
        refine va_put (pc := 64) (D := D) (ci := 2) (v := .int (0 : Int32)) (ty := .int) (C := RX2) (T := TX2) (N := 3) hx hb hts inX2 tyX2 tyX2_ok nmX2 hown hK hP hD hS 8 rfl rfl 2 (by decide) fl109 (fun _ h9 => h9) rfl (by decide +kernel) rfl rfl (Nat.le_of_ble_eq_true rfl) dX8_goBack_64 (fun H locs hP hD hS => ?_)
        have hP : va_P D vwCl (wX8_goBack_0 cI cZ cM cS xo so ho ko ia fo wo zo dr sca sna sla sra qs rr i0 mao maca mana mala mara nas i1 sn_1 sl_1 sfin_1 swk_1 scols_1 snear_1 slds_1 qc_1 qf_1 d0 hnx (0 : Int32) k0 d0 man mal mafin mawk macols manear malds nac naf) H := hP
        have hD : va_D A (wX8_goBack_0 cI cZ cM cS xo so ho ko ia fo wo zo dr sca sna sla sra qs rr i0 mao maca mana mala mara nas i1 sn_1 sl_1 sfin_1 swk_1 scols_1 snear_1 slds_1 qc_1 qf_1 d0 hnx (0 : Int32) k0 d0 man mal mafin mawk macols manear malds nac naf) := hD
        refine lv_iconst (v := (1 : Int32)) (pc := 67) hx hb dX8_goBack_67 (by decide) ?_
        cases hF
        exact hRet _ _ _ _ rfl dX8_goBack_68 hP hD hS
      · have hF := oif_t hF hc
        refine lv_ldc (v := (-1000000003 : Int32)) (pc := 24) hx hb hown cn221 dX8_goBack_24 ?_
        cases hF
        exact hRet _ _ _ _ rfl dX8_goBack_26 hP hD hS
    · have hF := oif_f hF hc
      refine lv_ldc (v := (-1000000001 : Int32)) (pc := 9) hx hb hown cn118 dX8_goBack_9 ?_
      cases hF
      exact hRet _ _ _ _ rfl dX8_goBack_11 hP hD hS
def fX8_keep_1 (sn : Int32) (sl : Int32) (sfin : Int32) (swk : Int32) (scols : (Nat → Int32)) (snear : (Nat → Int32)) (slds : (Nat → Int32)) (qc : Int32) (qf : (Nat → Int32)) (dst : Int32) (hnx : Int32) (hct : Int32) (k1 : Int32) (d1 : Int32) (mbn : Int32) (mbl : Int32) (mbfin : Int32) (mbwk : Int32) (mbcols : (Nat → Int32)) (mbnear : (Nat → Int32)) (mblds : (Nat → Int32)) (nbc : Int32) (nbf : (Nat → Int32)) : Option (Int32 × Int32 × Int32 × Int32 × Int32 × Int32 × Int32 × Int32 × (Nat → Int32) × (Nat → Int32) × (Nat → Int32) × Int32 × (Nat → Int32)) := (if (1 : Int32) < (0 : Int32) then (some ((-1000000001 : Int32), hct, k1, d1, mbn, mbl, mbfin, mbwk, mbcols, mbnear, mblds, nbc, nbf)) else (if (1 : Int32) < (2 : Int32) then (ob9 (fX6_copyFrom mbn mbl mbfin mbwk mbcols mbnear mblds nbc nbf sn sl sfin swk scols snear slds qc qf) (fun mbn_1 mbl_1 mbfin_1 mbwk_1 mbcols_1 mbnear_1 mblds_1 nbc_1 nbf_1 => (some ((1 : Int32), (0 : Int32), (1 : Int32), dst, mbn_1, mbl_1, mbfin_1, mbwk_1, mbcols_1, mbnear_1, mblds_1, nbc_1, nbf_1)))) else (some ((-1000000001 : Int32), hct, k1, d1, mbn, mbl, mbfin, mbwk, mbcols, mbnear, mblds, nbc, nbf))))
abbrev wX8_keep_1 (cI cZ cM cS : ClassId) (xo so ho ko ia fo wo zo dr sca sna sla sra qs rr i1 mbo mbca mbna mbla mbra nbs : Nat) (i0 : Nat) (sn : Int32) (sl : Int32) (sfin : Int32) (swk : Int32) (scols : (Nat → Int32)) (snear : (Nat → Int32)) (slds : (Nat → Int32)) (qc : Int32) (qf : (Nat → Int32)) (dst : Int32) (hnx : Int32) (hct : Int32) (k1 : Int32) (d1 : Int32) (mbn : Int32) (mbl : Int32) (mbfin : Int32) (mbwk : Int32) (mbcols : (Nat → Int32)) (mbnear : (Nat → Int32)) (mblds : (Nat → Int32)) (nbc : Int32) (nbf : (Nat → Int32)) : va_W := [(xo, .inr (8, [.ref so, .ref ho, .ref ko, .ref ia, .ref fo, .ref wo, .ref zo, .ref dr])), (so, .inr (6, [.int sn, .int sl, .int sfin, .int swk, .ref sca, .ref sna, .ref sla, .ref sra])), (sca, .inl (cI, 12, .inl scols)), (sna, .inl (cI, 12, .inl snear)), (sla, .inl (cI, 36, .inl slds)), (sra, .inr (5, [.ref qs, .int qc])), (qs, .inl (cI, 12, .inl qf)), (dr, .inr (1, [.int dst])), (ho, .inr (2, [.ref rr, .int hnx, .int hct])), (ia, .inl (cM, 2, .inr (.inr (.inr (.inr (va_up (va_up (fun _ => none) 0 (some i0)) 1 (some i1))))))), (i1, .inr (3, [.int k1, .int d1, .ref mbo])), (mbo, .inr (6, [.int mbn, .int mbl, .int mbfin, .int mbwk, .ref mbca, .ref mbna, .ref mbla, .ref mbra])), (mbca, .inl (cI, 12, .inl mbcols)), (mbna, .inl (cI, 12, .inl mbnear)), (mbla, .inl (cI, 36, .inl mblds)), (mbra, .inr (5, [.ref nbs, .int nbc])), (nbs, .inl (cI, 12, .inl nbf))]
set_option maxHeartbeats 4000000 in
set_option maxRecDepth 100000 in
theorem tX8_keep_1 (l : Launch) (D : va_G) (cI cZ cM cS : ClassId) (xo so ho ko ia fo wo zo dr sca sna sla sra qs rr i1 mbo mbca mbna mbla mbra nbs : Nat) (i0 : Nat) (sn : Int32) (sl : Int32) (sfin : Int32) (swk : Int32) (scols : (Nat → Int32)) (snear : (Nat → Int32)) (slds : (Nat → Int32)) (qc : Int32) (qf : (Nat → Int32)) (dst : Int32) (hnx : Int32) (hct : Int32) (k1 : Int32) (d1 : Int32) (mbn : Int32) (mbl : Int32) (mbfin : Int32) (mbwk : Int32) (mbcols : (Nat → Int32)) (mbnear : (Nat → Int32)) (mblds : (Nat → Int32)) (nbc : Int32) (nbf : (Nat → Int32)) {r : Int32} {hct' : Int32} {k1' : Int32} {d1' : Int32} {mbn' : Int32} {mbl' : Int32} {mbfin' : Int32} {mbwk' : Int32} {mbcols' : (Nat → Int32)} {mbnear' : (Nat → Int32)} {mblds' : (Nat → Int32)} {nbc' : Int32} {nbf' : (Nat → Int32)} (hF : fX8_keep_1 sn sl sfin swk scols snear slds qc qf dst hnx hct k1 d1 mbn mbl mbfin mbwk mbcols mbnear mblds nbc nbf = some (r, hct', k1', d1', mbn', mbl', mbfin', mbwk', mbcols', mbnear', mblds', nbc', nbf')) : zCW l yX8_keep wsX8_keep (zRm 3 90) D (zTy cI cZ cM cS) [.ref xo, .int (1 : Int32)] (wX8_keep_1 cI cZ cM cS xo so ho ko ia fo wo zo dr sca sna sla sra qs rr i1 mbo mbca mbna mbla mbra nbs i0 sn sl sfin swk scols snear slds qc qf dst hnx hct k1 d1 mbn mbl mbfin mbwk mbcols mbnear mblds nbc nbf) (wX8_keep_1 cI cZ cM cS xo so ho ko ia fo wo zo dr sca sna sla sra qs rr i1 mbo mbca mbna mbla mbra nbs i0 sn sl sfin swk scols snear slds qc qf dst hnx hct' k1' d1' mbn' mbl' mbfin' mbwk' mbcols' mbnear' mblds' nbc' nbf') (some (.int r)) := by
  unfold fX8_keep_1 at hF
  refine zCW_ofi (cc := cX8_keep) (maxL := 2) (own := RX8) (by decide) rfl rfl (Nat.le_of_ble_eq_true rfl) (fun p e s m args below meth c Q ls A E hA hK hP hD hRet hS hl => ?_)
  refine zgen (fun H locs hP hS => ?_) hP hS
  have hl : lv_has ls 2 [(0, .ref xo), (1, .int (1 : Int32))] := hl
  obtain ⟨hx, hb, hml, hown, hts⟩ := id E
  have inX1 : ∀ w ∈ u_ws RX1 TX1 1, w ∈ wsX8_keep := by decide +kernel
  have inX2 : ∀ w ∈ u_ws RX2 TX2 3, w ∈ wsX8_keep := by decide +kernel
  have inX3 : ∀ w ∈ u_ws RX3 TX3 3, w ∈ wsX8_keep := by decide +kernel
  have inX8 : ∀ w ∈ u_ws RX8 TX8 8, w ∈ wsX8_keep := by decide +kernel
  have fl10 := hts (.fieldLink RX8 10 "SplitClasses" "now" "LSplitClasses$State;") (by decide +kernel)
  have fl109 := hts (.fieldLink RX8 109 "SplitClasses$History" "count" "I") (by decide +kernel)
  have fl110 := hts (.fieldLink RX8 110 "SplitClasses$Draws" "state" "I") (by decide +kernel)
  have fl19 := hts (.fieldLink RX8 19 "SplitClasses" "history" "LSplitClasses$History;") (by decide +kernel)
  have fl230 := hts (.fieldLink RX8 230 "SplitClasses$Image" "kept" "Z") (by decide +kernel)
  have fl234 := hts (.fieldLink RX8 234 "SplitClasses$Image" "state" "LSplitClasses$State;") (by decide +kernel)
  have fl238 := hts (.fieldLink RX8 238 "SplitClasses$Image" "drawState" "I") (by decide +kernel)
  have fl32 := hts (.fieldLink RX8 32 "SplitClasses" "images" "[LSplitClasses$Image;") (by decide +kernel)
  have fl61 := hts (.fieldLink RX8 61 "SplitClasses" "draws" "LSplitClasses$Draws;") (by decide +kernel)
  have cn118 := hts (.constant RX8 118 (-1000000001)) (by decide +kernel)
  refine lv_iload_n (pc := 0) hx hb dX8_keep_0 rfl (lv_at hl 1 rfl) ?_
  refine lv_if_lt (pc := 1) (tgt := 9) hx hb dX8_keep_1 (by decide) (fun hc => ?_) (fun hc => ?_)
  · have hF := oif_t hF hc
    refine lv_ldc (v := (-1000000001 : Int32)) (pc := 9) hx hb hown cn118 dX8_keep_9 ?_
    cases hF
    exact hRet _ _ _ _ rfl dX8_keep_11 hP hD hS
  · have hF := oif_f hF hc
    refine lv_iload_n (pc := 4) hx hb dX8_keep_4 rfl (lv_at hl 1 rfl) ?_
    refine lv_iconst (v := (2 : Int32)) (pc := 5) hx hb dX8_keep_5 (by decide) ?_
    refine lv_icmp_lt (pc := 6) (tgt := 12) hx hb dX8_keep_6 (by decide) (fun hc => ?_) (fun hc => ?_)
    · have hF := oif_t hF hc
      refine lv_aload_n (pc := 12) hx hb dX8_keep_12 rfl (lv_at hl 0 rfl) ?_
      refine va_get (pc := 13) (ci := 8) (C := RX8) (T := TX8) (N := 8) hx hb hts inX8 hown hK hP 0 rfl rfl 3 (by decide) fl32 (fun _ h9 => h9) rfl dX8_keep_13 ?_
      refine lv_iload_n (pc := 16) hx hb dX8_keep_16 rfl (lv_at hl 1 rfl) ?_
      refine va_aldq (pc := 17) hx hb hK hP 9 2 rfl rfl (show ¬ ((1 : Int32) < 0 ∨ 2 ≤ Int32.toNatClampNeg (1 : Int32)) by decide) dX8_keep_17 ?_
      refine W.eq (g2 := F0 m 18 ls [.ref i1]) rfl ?_
      refine lv_iconst (v := (1 : Int32)) (pc := 18) hx hb dX8_keep_18 (by decide) ?_
      refine va_put (pc := 19) (D := D) (ci := 3) (v := .int (1 : Int32)) (ty := .boolean) (C := RX3) (T := TX3) (N := 3) hx hb hts inX3 tyX3 tyX3_ok nmX3 hown hK hP hD hS 10 rfl rfl 0 (by decide) fl230 (fun _ h9 => h9) rfl (by decide +kernel) rfl rfl (Nat.le_of_ble_eq_true rfl) dX8_keep_19 (fun H locs hP hD hS => ?_)
      have hP : va_P D vwCl (wX8_keep_1 cI cZ cM cS xo so ho ko ia fo wo zo dr sca sna sla sra qs rr i1 mbo mbca mbna mbla mbra nbs i0 sn sl sfin swk scols snear slds qc qf dst hnx hct (1 : Int32) d1 mbn mbl mbfin mbwk mbcols mbnear mblds nbc nbf) H := hP
      have hD : va_D A (wX8_keep_1 cI cZ cM cS xo so ho ko ia fo wo zo dr sca sna sla sra qs rr i1 mbo mbca mbna mbla mbra nbs i0 sn sl sfin swk scols snear slds qc qf dst hnx hct (1 : Int32) d1 mbn mbl mbfin mbwk mbcols mbnear mblds nbc nbf) := hD
      refine lv_aload_n (pc := 22) hx hb dX8_keep_22 rfl (lv_at hl 0 rfl) ?_
      refine va_get (pc := 23) (ci := 8) (C := RX8) (T := TX8) (N := 8) hx hb hts inX8 hown hK hP 0 rfl rfl 3 (by decide) fl32 (fun _ h9 => h9) rfl dX8_keep_23 ?_
      refine lv_iload_n (pc := 26) hx hb dX8_keep_26 rfl (lv_at hl 1 rfl) ?_
      refine va_aldq (pc := 27) hx hb hK hP 9 2 rfl rfl (show ¬ ((1 : Int32) < 0 ∨ 2 ≤ Int32.toNatClampNeg (1 : Int32)) by decide) dX8_keep_27 ?_
      refine W.eq (g2 := F0 m 28 ls [.ref i1]) rfl ?_
      refine va_get (pc := 28) (ci := 3) (C := RX3) (T := TX3) (N := 3) hx hb hts inX3 hown hK hP 10 rfl rfl 2 (by decide) fl234 (fun _ h9 => h9) rfl dX8_keep_28 ?_
      refine lv_aload_n (pc := 31) hx hb dX8_keep_31 rfl (lv_at hl 0 rfl) ?_
      refine va_get (pc := 32) (ci := 8) (C := RX8) (T := TX8) (N := 8) hx hb hts inX8 hown hK hP 0 rfl rfl 0 (by decide) fl10 (fun _ h9 => h9) rfl dX8_keep_32 ?_
      obtain ⟨mbn_1, mbl_1, mbfin_1, mbwk_1, mbcols_1, mbnear_1, mblds_1, nbc_1, nbf_1, hC1, hF⟩ := ob9_e hF
      refine zV (pc := 35) (As := [.ref so]) (rest := []) (wr := [(xo, .inr (8, [.ref so, .ref ho, .ref ko, .ref ia, .ref fo, .ref wo, .ref zo, .ref dr])), (dr, .inr (1, [.int dst])), (ho, .inr (2, [.ref rr, .int hnx, .int hct])), (ia, .inl (cM, 2, .inr (.inr (.inr (.inr (va_up (va_up (fun _ => none) 0 (some i0)) 1 (some i1))))))), (i1, .inr (3, [.int (1 : Int32), .int d1, .ref mbo]))]) (w2 := (wX8_keep_1 cI cZ cM cS xo so ho ko ia fo wo zo dr sca sna sla sra qs rr i1 mbo mbca mbna mbla mbra nbs i0 sn sl sfin swk scols snear slds qc qf dst hnx hct (1 : Int32) d1 mbn_1 mbl_1 mbfin_1 mbwk_1 mbcols_1 mbnear_1 mblds_1 nbc_1 nbf_1)) E (tX6_copyFrom l D cI cZ cM cS mbo mbca mbna mbla mbra nbs so sca sna sla sra qs mbn mbl mbfin mbwk mbcols mbnear mblds nbc nbf sn sl sfin swk scols snear slds qc qf hC1) 1 gX8_keep_X6_copyFrom rfl rfl rfl (by decide +kernel) ⟨Nat.le_of_ble_eq_true rfl, Nat.le_of_ble_eq_true rfl⟩ hK hP hD hS hA [11, 12, 13, 14, 15, 16, 1, 2, 3, 4, 5, 6] [0, 7, 8, 9, 10] [0, 11, 12, 13, 14, 15, 16, 1, 2, 3, 4, 5, 6, 7, 8, 9, 10] (by decide) rfl rfl (by decide) (by decide) rfl (by decide) 0 6 rfl rfl rfl rfl hl.1 rfl (Nat.le_of_ble_eq_true rfl) dX8_keep_35 ⟨Nat.zero_le _, Nat.zero_le _⟩ (fun H locs hP hD hS => ?_)
      refine W.eq (g2 := F0 m 38 ls []) rfl ?_
      refine lv_aload_n (pc := 38) hx hb dX8_keep_38 rfl (lv_at hl 0 rfl) ?_
      refine va_get (pc := 39) (ci := 8) (C := RX8) (T := TX8) (N := 8) hx hb hts inX8 hown hK hP 0 rfl rfl 3 (by decide) fl32 (fun _ h9 => h9) rfl dX8_keep_39 ?_
      refine lv_iload_n (pc := 42) hx hb dX8_keep_42 rfl (lv_at hl 1 rfl) ?_
      refine va_aldq (pc := 43) hx hb hK hP 9 2 rfl rfl (show ¬ ((1 : Int32) < 0 ∨ 2 ≤ Int32.toNatClampNeg (1 : Int32)) by decide) dX8_keep_43 ?_
      refine W.eq (g2 := F0 m 44 ls [.ref i1]) rfl ?_
      refine lv_aload_n (pc := 44) hx hb dX8_keep_44 rfl (lv_at hl 0 rfl) ?_
      refine va_get (pc := 45) (ci := 8) (C := RX8) (T := TX8) (N := 8) hx hb hts inX8 hown hK hP 0 rfl rfl 7 (by decide) fl61 (fun _ h9 => h9) rfl dX8_keep_45 ?_
      refine va_get (pc := 48) (ci := 1) (C := RX1) (T := TX1) (N := 1) hx hb hts inX1 hown hK hP 7 rfl rfl 0 (by decide) fl110 (fun _ h9 => h9) rfl dX8_keep_48 ?_
      refine va_put (pc := 51) (D := D) (ci := 3) (v := .int dst) (ty := .int) (C := RX3) (T := TX3) (N := 3) hx hb hts inX3 tyX3 tyX3_ok nmX3 hown hK hP hD hS 10 rfl rfl 1 (by decide) fl238 (fun _ h9 => h9) rfl (by decide +kernel) rfl rfl (Nat.le_of_ble_eq_true rfl) dX8_keep_51 (fun H locs hP hD hS => ?_)
      have hP : va_P D vwCl (wX8_keep_1 cI cZ cM cS xo so ho ko ia fo wo zo dr sca sna sla sra qs rr i1 mbo mbca mbna mbla mbra nbs i0 sn sl sfin swk scols snear slds qc qf dst hnx hct (1 : Int32) dst mbn_1 mbl_1 mbfin_1 mbwk_1 mbcols_1 mbnear_1 mblds_1 nbc_1 nbf_1) H := hP
      have hD : va_D A (wX8_keep_1 cI cZ cM cS xo so ho ko ia fo wo zo dr sca sna sla sra qs rr i1 mbo mbca mbna mbla mbra nbs i0 sn sl sfin swk scols snear slds qc qf dst hnx hct (1 : Int32) dst mbn_1 mbl_1 mbfin_1 mbwk_1 mbcols_1 mbnear_1 mblds_1 nbc_1 nbf_1) := hD
      refine lv_aload_n (pc := 54) hx hb dX8_keep_54 rfl (lv_at hl 0 rfl) ?_
      refine va_get (pc := 55) (ci := 8) (C := RX8) (T := TX8) (N := 8) hx hb hts inX8 hown hK hP 0 rfl rfl 1 (by decide) fl19 (fun _ h9 => h9) rfl dX8_keep_55 ?_
      refine lv_iconst (v := (0 : Int32)) (pc := 58) hx hb dX8_keep_58 (by decide) ?_
      refine va_put (pc := 59) (D := D) (ci := 2) (v := .int (0 : Int32)) (ty := .int) (C := RX2) (T := TX2) (N := 3) hx hb hts inX2 tyX2 tyX2_ok nmX2 hown hK hP hD hS 8 rfl rfl 2 (by decide) fl109 (fun _ h9 => h9) rfl (by decide +kernel) rfl rfl (Nat.le_of_ble_eq_true rfl) dX8_keep_59 (fun H locs hP hD hS => ?_)
      have hP : va_P D vwCl (wX8_keep_1 cI cZ cM cS xo so ho ko ia fo wo zo dr sca sna sla sra qs rr i1 mbo mbca mbna mbla mbra nbs i0 sn sl sfin swk scols snear slds qc qf dst hnx (0 : Int32) (1 : Int32) dst mbn_1 mbl_1 mbfin_1 mbwk_1 mbcols_1 mbnear_1 mblds_1 nbc_1 nbf_1) H := hP
      have hD : va_D A (wX8_keep_1 cI cZ cM cS xo so ho ko ia fo wo zo dr sca sna sla sra qs rr i1 mbo mbca mbna mbla mbra nbs i0 sn sl sfin swk scols snear slds qc qf dst hnx (0 : Int32) (1 : Int32) dst mbn_1 mbl_1 mbfin_1 mbwk_1 mbcols_1 mbnear_1 mblds_1 nbc_1 nbf_1) := hD
      refine lv_iconst (v := (1 : Int32)) (pc := 62) hx hb dX8_keep_62 (by decide) ?_
      cases hF
      exact hRet _ _ _ _ rfl dX8_keep_63 hP hD hS
    · have hF := oif_f hF hc
      refine lv_ldc (v := (-1000000001 : Int32)) (pc := 9) hx hb hown cn118 dX8_keep_9 ?_
      cases hF
      exact hRet _ _ _ _ rfl dX8_keep_11 hP hD hS
def fX8_goBack_1 (sn : Int32) (sl : Int32) (sfin : Int32) (swk : Int32) (scols : (Nat → Int32)) (snear : (Nat → Int32)) (slds : (Nat → Int32)) (qc : Int32) (qf : (Nat → Int32)) (dst : Int32) (hnx : Int32) (hct : Int32) (k1 : Int32) (d1 : Int32) (mbn : Int32) (mbl : Int32) (mbfin : Int32) (mbwk : Int32) (mbcols : (Nat → Int32)) (mbnear : (Nat → Int32)) (mblds : (Nat → Int32)) (nbc : Int32) (nbf : (Nat → Int32)) : Option (Int32 × Int32 × Int32 × Int32 × Int32 × (Nat → Int32) × (Nat → Int32) × (Nat → Int32) × Int32 × (Nat → Int32) × Int32 × Int32) := (if (1 : Int32) < (0 : Int32) then (some ((-1000000001 : Int32), sn, sl, sfin, swk, scols, snear, slds, qc, qf, dst, hct)) else (if (1 : Int32) < (2 : Int32) then (if k1 = (0 : Int32) then (some ((-1000000003 : Int32), sn, sl, sfin, swk, scols, snear, slds, qc, qf, dst, hct)) else (ob9 (fX6_copyFrom sn sl sfin swk scols snear slds qc qf mbn mbl mbfin mbwk mbcols mbnear mblds nbc nbf) (fun sn_1 sl_1 sfin_1 swk_1 scols_1 snear_1 slds_1 qc_1 qf_1 => (some ((1 : Int32), sn_1, sl_1, sfin_1, swk_1, scols_1, snear_1, slds_1, qc_1, qf_1, d1, (0 : Int32)))))) else (some ((-1000000001 : Int32), sn, sl, sfin, swk, scols, snear, slds, qc, qf, dst, hct))))
abbrev wX8_goBack_1 (cI cZ cM cS : ClassId) (xo so ho ko ia fo wo zo dr sca sna sla sra qs rr i1 mbo mbca mbna mbla mbra nbs : Nat) (i0 : Nat) (sn : Int32) (sl : Int32) (sfin : Int32) (swk : Int32) (scols : (Nat → Int32)) (snear : (Nat → Int32)) (slds : (Nat → Int32)) (qc : Int32) (qf : (Nat → Int32)) (dst : Int32) (hnx : Int32) (hct : Int32) (k1 : Int32) (d1 : Int32) (mbn : Int32) (mbl : Int32) (mbfin : Int32) (mbwk : Int32) (mbcols : (Nat → Int32)) (mbnear : (Nat → Int32)) (mblds : (Nat → Int32)) (nbc : Int32) (nbf : (Nat → Int32)) : va_W := [(xo, .inr (8, [.ref so, .ref ho, .ref ko, .ref ia, .ref fo, .ref wo, .ref zo, .ref dr])), (so, .inr (6, [.int sn, .int sl, .int sfin, .int swk, .ref sca, .ref sna, .ref sla, .ref sra])), (sca, .inl (cI, 12, .inl scols)), (sna, .inl (cI, 12, .inl snear)), (sla, .inl (cI, 36, .inl slds)), (sra, .inr (5, [.ref qs, .int qc])), (qs, .inl (cI, 12, .inl qf)), (dr, .inr (1, [.int dst])), (ho, .inr (2, [.ref rr, .int hnx, .int hct])), (ia, .inl (cM, 2, .inr (.inr (.inr (.inr (va_up (va_up (fun _ => none) 0 (some i0)) 1 (some i1))))))), (i1, .inr (3, [.int k1, .int d1, .ref mbo])), (mbo, .inr (6, [.int mbn, .int mbl, .int mbfin, .int mbwk, .ref mbca, .ref mbna, .ref mbla, .ref mbra])), (mbca, .inl (cI, 12, .inl mbcols)), (mbna, .inl (cI, 12, .inl mbnear)), (mbla, .inl (cI, 36, .inl mblds)), (mbra, .inr (5, [.ref nbs, .int nbc])), (nbs, .inl (cI, 12, .inl nbf))]
set_option maxHeartbeats 4000000 in
set_option maxRecDepth 100000 in
theorem tX8_goBack_1 (l : Launch) (D : va_G) (cI cZ cM cS : ClassId) (xo so ho ko ia fo wo zo dr sca sna sla sra qs rr i1 mbo mbca mbna mbla mbra nbs : Nat) (i0 : Nat) (sn : Int32) (sl : Int32) (sfin : Int32) (swk : Int32) (scols : (Nat → Int32)) (snear : (Nat → Int32)) (slds : (Nat → Int32)) (qc : Int32) (qf : (Nat → Int32)) (dst : Int32) (hnx : Int32) (hct : Int32) (k1 : Int32) (d1 : Int32) (mbn : Int32) (mbl : Int32) (mbfin : Int32) (mbwk : Int32) (mbcols : (Nat → Int32)) (mbnear : (Nat → Int32)) (mblds : (Nat → Int32)) (nbc : Int32) (nbf : (Nat → Int32)) {r : Int32} {sn' : Int32} {sl' : Int32} {sfin' : Int32} {swk' : Int32} {scols' : (Nat → Int32)} {snear' : (Nat → Int32)} {slds' : (Nat → Int32)} {qc' : Int32} {qf' : (Nat → Int32)} {dst' : Int32} {hct' : Int32} (hF : fX8_goBack_1 sn sl sfin swk scols snear slds qc qf dst hnx hct k1 d1 mbn mbl mbfin mbwk mbcols mbnear mblds nbc nbf = some (r, sn', sl', sfin', swk', scols', snear', slds', qc', qf', dst', hct')) : zCW l yX8_goBack wsX8_goBack (zRm 3 90) D (zTy cI cZ cM cS) [.ref xo, .int (1 : Int32)] (wX8_goBack_1 cI cZ cM cS xo so ho ko ia fo wo zo dr sca sna sla sra qs rr i1 mbo mbca mbna mbla mbra nbs i0 sn sl sfin swk scols snear slds qc qf dst hnx hct k1 d1 mbn mbl mbfin mbwk mbcols mbnear mblds nbc nbf) (wX8_goBack_1 cI cZ cM cS xo so ho ko ia fo wo zo dr sca sna sla sra qs rr i1 mbo mbca mbna mbla mbra nbs i0 sn' sl' sfin' swk' scols' snear' slds' qc' qf' dst' hnx hct' k1 d1 mbn mbl mbfin mbwk mbcols mbnear mblds nbc nbf) (some (.int r)) := by
  unfold fX8_goBack_1 at hF
  refine zCW_ofi (cc := cX8_goBack) (maxL := 2) (own := RX8) (by decide) rfl rfl (Nat.le_of_ble_eq_true rfl) (fun p e s m args below meth c Q ls A E hA hK hP hD hRet hS hl => ?_)
  refine zgen (fun H locs hP hS => ?_) hP hS
  have hl : lv_has ls 2 [(0, .ref xo), (1, .int (1 : Int32))] := hl
  obtain ⟨hx, hb, hml, hown, hts⟩ := id E
  have inX1 : ∀ w ∈ u_ws RX1 TX1 1, w ∈ wsX8_goBack := by decide +kernel
  have inX2 : ∀ w ∈ u_ws RX2 TX2 3, w ∈ wsX8_goBack := by decide +kernel
  have inX3 : ∀ w ∈ u_ws RX3 TX3 3, w ∈ wsX8_goBack := by decide +kernel
  have inX8 : ∀ w ∈ u_ws RX8 TX8 8, w ∈ wsX8_goBack := by decide +kernel
  have fl10 := hts (.fieldLink RX8 10 "SplitClasses" "now" "LSplitClasses$State;") (by decide +kernel)
  have fl109 := hts (.fieldLink RX8 109 "SplitClasses$History" "count" "I") (by decide +kernel)
  have fl110 := hts (.fieldLink RX8 110 "SplitClasses$Draws" "state" "I") (by decide +kernel)
  have fl19 := hts (.fieldLink RX8 19 "SplitClasses" "history" "LSplitClasses$History;") (by decide +kernel)
  have fl230 := hts (.fieldLink RX8 230 "SplitClasses$Image" "kept" "Z") (by decide +kernel)
  have fl234 := hts (.fieldLink RX8 234 "SplitClasses$Image" "state" "LSplitClasses$State;") (by decide +kernel)
  have fl238 := hts (.fieldLink RX8 238 "SplitClasses$Image" "drawState" "I") (by decide +kernel)
  have fl32 := hts (.fieldLink RX8 32 "SplitClasses" "images" "[LSplitClasses$Image;") (by decide +kernel)
  have fl61 := hts (.fieldLink RX8 61 "SplitClasses" "draws" "LSplitClasses$Draws;") (by decide +kernel)
  have cn118 := hts (.constant RX8 118 (-1000000001)) (by decide +kernel)
  have cn221 := hts (.constant RX8 221 (-1000000003)) (by decide +kernel)
  refine lv_iload_n (pc := 0) hx hb dX8_goBack_0 rfl (lv_at hl 1 rfl) ?_
  refine lv_if_lt (pc := 1) (tgt := 9) hx hb dX8_goBack_1 (by decide) (fun hc => ?_) (fun hc => ?_)
  · have hF := oif_t hF hc
    refine lv_ldc (v := (-1000000001 : Int32)) (pc := 9) hx hb hown cn118 dX8_goBack_9 ?_
    cases hF
    exact hRet _ _ _ _ rfl dX8_goBack_11 hP hD hS
  · have hF := oif_f hF hc
    refine lv_iload_n (pc := 4) hx hb dX8_goBack_4 rfl (lv_at hl 1 rfl) ?_
    refine lv_iconst (v := (2 : Int32)) (pc := 5) hx hb dX8_goBack_5 (by decide) ?_
    refine lv_icmp_lt (pc := 6) (tgt := 12) hx hb dX8_goBack_6 (by decide) (fun hc => ?_) (fun hc => ?_)
    · have hF := oif_t hF hc
      refine lv_aload_n (pc := 12) hx hb dX8_goBack_12 rfl (lv_at hl 0 rfl) ?_
      refine va_get (pc := 13) (ci := 8) (C := RX8) (T := TX8) (N := 8) hx hb hts inX8 hown hK hP 0 rfl rfl 3 (by decide) fl32 (fun _ h9 => h9) rfl dX8_goBack_13 ?_
      refine lv_iload_n (pc := 16) hx hb dX8_goBack_16 rfl (lv_at hl 1 rfl) ?_
      refine va_aldq (pc := 17) hx hb hK hP 9 2 rfl rfl (show ¬ ((1 : Int32) < 0 ∨ 2 ≤ Int32.toNatClampNeg (1 : Int32)) by decide) dX8_goBack_17 ?_
      refine W.eq (g2 := F0 m 18 ls [.ref i1]) rfl ?_
      refine va_get (pc := 18) (ci := 3) (C := RX3) (T := TX3) (N := 3) hx hb hts inX3 hown hK hP 10 rfl rfl 0 (by decide) fl230 (fun _ h9 => h9) rfl dX8_goBack_18 ?_
      refine lv_if_ne (pc := 21) (tgt := 27) hx hb dX8_goBack_21 (by decide) (fun hc => ?_) (fun hc => ?_)
      · have hF := oif_f hF hc
        refine lv_aload_n (pc := 27) hx hb dX8_goBack_27 rfl (lv_at hl 0 rfl) ?_
        refine va_get (pc := 28) (ci := 8) (C := RX8) (T := TX8) (N := 8) hx hb hts inX8 hown hK hP 0 rfl rfl 0 (by decide) fl10 (fun _ h9 => h9) rfl dX8_goBack_28 ?_
        refine lv_aload_n (pc := 31) hx hb dX8_goBack_31 rfl (lv_at hl 0 rfl) ?_
        refine va_get (pc := 32) (ci := 8) (C := RX8) (T := TX8) (N := 8) hx hb hts inX8 hown hK hP 0 rfl rfl 3 (by decide) fl32 (fun _ h9 => h9) rfl dX8_goBack_32 ?_
        refine lv_iload_n (pc := 35) hx hb dX8_goBack_35 rfl (lv_at hl 1 rfl) ?_
        refine va_aldq (pc := 36) hx hb hK hP 9 2 rfl rfl (show ¬ ((1 : Int32) < 0 ∨ 2 ≤ Int32.toNatClampNeg (1 : Int32)) by decide) dX8_goBack_36 ?_
        refine W.eq (g2 := F0 m 37 ls [.ref i1, .ref so]) rfl ?_
        refine va_get (pc := 37) (ci := 3) (C := RX3) (T := TX3) (N := 3) hx hb hts inX3 hown hK hP 10 rfl rfl 2 (by decide) fl234 (fun _ h9 => h9) rfl dX8_goBack_37 ?_
        obtain ⟨sn_1, sl_1, sfin_1, swk_1, scols_1, snear_1, slds_1, qc_1, qf_1, hC1, hF⟩ := ob9_e hF
        refine zV (pc := 40) (As := [.ref mbo]) (rest := []) (wr := [(xo, .inr (8, [.ref so, .ref ho, .ref ko, .ref ia, .ref fo, .ref wo, .ref zo, .ref dr])), (dr, .inr (1, [.int dst])), (ho, .inr (2, [.ref rr, .int hnx, .int hct])), (ia, .inl (cM, 2, .inr (.inr (.inr (.inr (va_up (va_up (fun _ => none) 0 (some i0)) 1 (some i1))))))), (i1, .inr (3, [.int k1, .int d1, .ref mbo]))]) (w2 := (wX8_goBack_1 cI cZ cM cS xo so ho ko ia fo wo zo dr sca sna sla sra qs rr i1 mbo mbca mbna mbla mbra nbs i0 sn_1 sl_1 sfin_1 swk_1 scols_1 snear_1 slds_1 qc_1 qf_1 dst hnx hct k1 d1 mbn mbl mbfin mbwk mbcols mbnear mblds nbc nbf)) E (tX6_copyFrom l D cI cZ cM cS so sca sna sla sra qs mbo mbca mbna mbla mbra nbs sn sl sfin swk scols snear slds qc qf mbn mbl mbfin mbwk mbcols mbnear mblds nbc nbf hC1) 1 gX8_goBack_X6_copyFrom rfl rfl rfl (by decide +kernel) ⟨Nat.le_of_ble_eq_true rfl, Nat.le_of_ble_eq_true rfl⟩ hK hP hD hS hA [1, 2, 3, 4, 5, 6, 11, 12, 13, 14, 15, 16] [0, 7, 8, 9, 10] [0, 5, 6, 7, 8, 9, 10, 1, 2, 3, 4, 11, 12, 13, 14, 15, 16] (by decide) rfl rfl (by decide) (by decide) rfl (by decide) 0 6 rfl rfl rfl rfl hl.1 rfl (Nat.le_of_ble_eq_true rfl) dX8_goBack_40 ⟨Nat.zero_le _, Nat.zero_le _⟩ (fun H locs hP hD hS => ?_)
        refine W.eq (g2 := F0 m 43 ls []) rfl ?_
        refine lv_aload_n (pc := 43) hx hb dX8_goBack_43 rfl (lv_at hl 0 rfl) ?_
        refine va_get (pc := 44) (ci := 8) (C := RX8) (T := TX8) (N := 8) hx hb hts inX8 hown hK hP 0 rfl rfl 7 (by decide) fl61 (fun _ h9 => h9) rfl dX8_goBack_44 ?_
        refine lv_aload_n (pc := 47) hx hb dX8_goBack_47 rfl (lv_at hl 0 rfl) ?_
        refine va_get (pc := 48) (ci := 8) (C := RX8) (T := TX8) (N := 8) hx hb hts inX8 hown hK hP 0 rfl rfl 3 (by decide) fl32 (fun _ h9 => h9) rfl dX8_goBack_48 ?_
        refine lv_iload_n (pc := 51) hx hb dX8_goBack_51 rfl (lv_at hl 1 rfl) ?_
        refine va_aldq (pc := 52) hx hb hK hP 9 2 rfl rfl (show ¬ ((1 : Int32) < 0 ∨ 2 ≤ Int32.toNatClampNeg (1 : Int32)) by decide) dX8_goBack_52 ?_
        refine W.eq (g2 := F0 m 53 ls [.ref i1, .ref dr]) rfl ?_
        refine va_get (pc := 53) (ci := 3) (C := RX3) (T := TX3) (N := 3) hx hb hts inX3 hown hK hP 10 rfl rfl 1 (by decide) fl238 (fun _ h9 => h9) rfl dX8_goBack_53 ?_
        refine va_put (pc := 56) (D := D) (ci := 1) (v := .int d1) (ty := .int) (C := RX1) (T := TX1) (N := 1) hx hb hts inX1 tyX1 tyX1_ok nmX1 hown hK hP hD hS 7 rfl rfl 0 (by decide) fl110 (fun _ h9 => h9) rfl (by decide +kernel) rfl rfl (Nat.le_of_ble_eq_true rfl) dX8_goBack_56 (fun H locs hP hD hS => ?_)
        have hP : va_P D vwCl (wX8_goBack_1 cI cZ cM cS xo so ho ko ia fo wo zo dr sca sna sla sra qs rr i1 mbo mbca mbna mbla mbra nbs i0 sn_1 sl_1 sfin_1 swk_1 scols_1 snear_1 slds_1 qc_1 qf_1 d1 hnx hct k1 d1 mbn mbl mbfin mbwk mbcols mbnear mblds nbc nbf) H := hP
        have hD : va_D A (wX8_goBack_1 cI cZ cM cS xo so ho ko ia fo wo zo dr sca sna sla sra qs rr i1 mbo mbca mbna mbla mbra nbs i0 sn_1 sl_1 sfin_1 swk_1 scols_1 snear_1 slds_1 qc_1 qf_1 d1 hnx hct k1 d1 mbn mbl mbfin mbwk mbcols mbnear mblds nbc nbf) := hD
        refine lv_aload_n (pc := 59) hx hb dX8_goBack_59 rfl (lv_at hl 0 rfl) ?_
        refine va_get (pc := 60) (ci := 8) (C := RX8) (T := TX8) (N := 8) hx hb hts inX8 hown hK hP 0 rfl rfl 1 (by decide) fl19 (fun _ h9 => h9) rfl dX8_goBack_60 ?_
        refine lv_iconst (v := (0 : Int32)) (pc := 63) hx hb dX8_goBack_63 (by decide) ?_
        refine va_put (pc := 64) (D := D) (ci := 2) (v := .int (0 : Int32)) (ty := .int) (C := RX2) (T := TX2) (N := 3) hx hb hts inX2 tyX2 tyX2_ok nmX2 hown hK hP hD hS 8 rfl rfl 2 (by decide) fl109 (fun _ h9 => h9) rfl (by decide +kernel) rfl rfl (Nat.le_of_ble_eq_true rfl) dX8_goBack_64 (fun H locs hP hD hS => ?_)
        have hP : va_P D vwCl (wX8_goBack_1 cI cZ cM cS xo so ho ko ia fo wo zo dr sca sna sla sra qs rr i1 mbo mbca mbna mbla mbra nbs i0 sn_1 sl_1 sfin_1 swk_1 scols_1 snear_1 slds_1 qc_1 qf_1 d1 hnx (0 : Int32) k1 d1 mbn mbl mbfin mbwk mbcols mbnear mblds nbc nbf) H := hP
        have hD : va_D A (wX8_goBack_1 cI cZ cM cS xo so ho ko ia fo wo zo dr sca sna sla sra qs rr i1 mbo mbca mbna mbla mbra nbs i0 sn_1 sl_1 sfin_1 swk_1 scols_1 snear_1 slds_1 qc_1 qf_1 d1 hnx (0 : Int32) k1 d1 mbn mbl mbfin mbwk mbcols mbnear mblds nbc nbf) := hD
        refine lv_iconst (v := (1 : Int32)) (pc := 67) hx hb dX8_goBack_67 (by decide) ?_
        cases hF
        exact hRet _ _ _ _ rfl dX8_goBack_68 hP hD hS
      · have hF := oif_t hF hc
        refine lv_ldc (v := (-1000000003 : Int32)) (pc := 24) hx hb hown cn221 dX8_goBack_24 ?_
        cases hF
        exact hRet _ _ _ _ rfl dX8_goBack_26 hP hD hS
    · have hF := oif_f hF hc
      refine lv_ldc (v := (-1000000001 : Int32)) (pc := 9) hx hb hown cn118 dX8_goBack_9 ?_
      cases hF
      exact hRet _ _ _ _ rfl dX8_goBack_11 hP hD hS
def fX8_keep_x (p1 : Int32) : Option (Int32) := (if p1 < (0 : Int32) then (some (-1000000001 : Int32)) else (if p1 < (2 : Int32) then none else (some (-1000000001 : Int32))))
abbrev wX8_keep_x (cI cZ cM cS : ClassId) (xo so ho ko ia fo wo zo dr : Nat) (i0 : Nat) (i1 : Nat) : va_W := [(xo, .inr (8, [.ref so, .ref ho, .ref ko, .ref ia, .ref fo, .ref wo, .ref zo, .ref dr])), (ia, .inl (cM, 2, .inr (.inr (.inr (.inr (va_up (va_up (fun _ => none) 0 (some i0)) 1 (some i1)))))))]
set_option maxHeartbeats 4000000 in
set_option maxRecDepth 100000 in
theorem tX8_keep_x (l : Launch) (D : va_G) (cI cZ cM cS : ClassId) (xo so ho ko ia fo wo zo dr : Nat) (i0 : Nat) (i1 : Nat) (p1 : Int32) {r : Int32} (hF : fX8_keep_x p1 = some r) : zCR l yX8_keep wsX8_keep (zRm 0 0) D (zTy cI cZ cM cS) [.ref xo, .int p1] (wX8_keep_x cI cZ cM cS xo so ho ko ia fo wo zo dr i0 i1) r := by
  unfold fX8_keep_x at hF
  refine zCR_of (cc := cX8_keep) (maxL := 2) (own := RX8) (by decide +kernel) rfl rfl (Nat.le_of_ble_eq_true rfl) (fun p e s m args below meth c Q ls E hK hP hRet hl => ?_)
  have hl : lv_has ls 2 [(0, .ref xo), (1, .int p1)] := hl
  obtain ⟨hx, hb, hml, hown, hts⟩ := id E
  have inX8 : ∀ w ∈ u_ws RX8 TX8 8, w ∈ wsX8_keep := by decide +kernel
  have fl32 := hts (.fieldLink RX8 32 "SplitClasses" "images" "[LSplitClasses$Image;") (by decide +kernel)
  have cn118 := hts (.constant RX8 118 (-1000000001)) (by decide +kernel)
  refine lv_iload_n (pc := 0) hx hb dX8_keep_0 rfl (lv_at hl 1 rfl) ?_
  refine lv_if_lt (pc := 1) (tgt := 9) hx hb dX8_keep_1 (by decide) (fun hc => ?_) (fun hc => ?_)
  · have hF := oif_t hF hc
    refine lv_ldc (v := (-1000000001 : Int32)) (pc := 9) hx hb hown cn118 dX8_keep_9 ?_
    cases hF
    exact hRet _ _ rfl dX8_keep_11
  · have hF := oif_f hF hc
    refine lv_iload_n (pc := 4) hx hb dX8_keep_4 rfl (lv_at hl 1 rfl) ?_
    refine lv_iconst (v := (2 : Int32)) (pc := 5) hx hb dX8_keep_5 (by decide) ?_
    refine lv_icmp_lt (pc := 6) (tgt := 12) hx hb dX8_keep_6 (by decide) (fun hc => ?_) (fun hc => ?_)
    · have hF := oif_t hF hc
      refine lv_aload_n (pc := 12) hx hb dX8_keep_12 rfl (lv_at hl 0 rfl) ?_
      refine va_get (pc := 13) (ci := 8) (C := RX8) (T := TX8) (N := 8) hx hb hts inX8 hown hK hP 0 rfl rfl 3 (by decide) fl32 (fun _ h9 => h9) rfl dX8_keep_13 ?_
      refine lv_iload_n (pc := 16) hx hb dX8_keep_16 rfl (lv_at hl 1 rfl) ?_
      cases hF
    · have hF := oif_f hF hc
      refine lv_ldc (v := (-1000000001 : Int32)) (pc := 9) hx hb hown cn118 dX8_keep_9 ?_
      cases hF
      exact hRet _ _ rfl dX8_keep_11
def fX8_goBack_x (p1 : Int32) : Option (Int32) := (if p1 < (0 : Int32) then (some (-1000000001 : Int32)) else (if p1 < (2 : Int32) then none else (some (-1000000001 : Int32))))
abbrev wX8_goBack_x (cI cZ cM cS : ClassId) (xo so ho ko ia fo wo zo dr : Nat) (i0 : Nat) (i1 : Nat) : va_W := [(xo, .inr (8, [.ref so, .ref ho, .ref ko, .ref ia, .ref fo, .ref wo, .ref zo, .ref dr])), (ia, .inl (cM, 2, .inr (.inr (.inr (.inr (va_up (va_up (fun _ => none) 0 (some i0)) 1 (some i1)))))))]
set_option maxHeartbeats 4000000 in
set_option maxRecDepth 100000 in
theorem tX8_goBack_x (l : Launch) (D : va_G) (cI cZ cM cS : ClassId) (xo so ho ko ia fo wo zo dr : Nat) (i0 : Nat) (i1 : Nat) (p1 : Int32) {r : Int32} (hF : fX8_goBack_x p1 = some r) : zCR l yX8_goBack wsX8_goBack (zRm 0 0) D (zTy cI cZ cM cS) [.ref xo, .int p1] (wX8_goBack_x cI cZ cM cS xo so ho ko ia fo wo zo dr i0 i1) r := by
  unfold fX8_goBack_x at hF
  refine zCR_of (cc := cX8_goBack) (maxL := 2) (own := RX8) (by decide +kernel) rfl rfl (Nat.le_of_ble_eq_true rfl) (fun p e s m args below meth c Q ls E hK hP hRet hl => ?_)
  have hl : lv_has ls 2 [(0, .ref xo), (1, .int p1)] := hl
  obtain ⟨hx, hb, hml, hown, hts⟩ := id E
  have inX8 : ∀ w ∈ u_ws RX8 TX8 8, w ∈ wsX8_goBack := by decide +kernel
  have fl32 := hts (.fieldLink RX8 32 "SplitClasses" "images" "[LSplitClasses$Image;") (by decide +kernel)
  have cn118 := hts (.constant RX8 118 (-1000000001)) (by decide +kernel)
  refine lv_iload_n (pc := 0) hx hb dX8_goBack_0 rfl (lv_at hl 1 rfl) ?_
  refine lv_if_lt (pc := 1) (tgt := 9) hx hb dX8_goBack_1 (by decide) (fun hc => ?_) (fun hc => ?_)
  · have hF := oif_t hF hc
    refine lv_ldc (v := (-1000000001 : Int32)) (pc := 9) hx hb hown cn118 dX8_goBack_9 ?_
    cases hF
    exact hRet _ _ rfl dX8_goBack_11
  · have hF := oif_f hF hc
    refine lv_iload_n (pc := 4) hx hb dX8_goBack_4 rfl (lv_at hl 1 rfl) ?_
    refine lv_iconst (v := (2 : Int32)) (pc := 5) hx hb dX8_goBack_5 (by decide) ?_
    refine lv_icmp_lt (pc := 6) (tgt := 12) hx hb dX8_goBack_6 (by decide) (fun hc => ?_) (fun hc => ?_)
    · have hF := oif_t hF hc
      refine lv_aload_n (pc := 12) hx hb dX8_goBack_12 rfl (lv_at hl 0 rfl) ?_
      refine va_get (pc := 13) (ci := 8) (C := RX8) (T := TX8) (N := 8) hx hb hts inX8 hown hK hP 0 rfl rfl 3 (by decide) fl32 (fun _ h9 => h9) rfl dX8_goBack_13 ?_
      refine lv_iload_n (pc := 16) hx hb dX8_goBack_16 rfl (lv_at hl 1 rfl) ?_
      cases hF
    · have hF := oif_f hF hc
      refine lv_ldc (v := (-1000000001 : Int32)) (pc := 9) hx hb hown cn118 dX8_goBack_9 ?_
      cases hF
      exact hRet _ _ rfl dX8_goBack_11
