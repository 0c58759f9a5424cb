def fX9_isOneMore_b105 (st : (Nat → Int32)) (x7_2 : Int32) (ia : (Nat → Int32)) (x9_4 : Int32) (x8_5 : Int32) : Option ((Int32 × Int32) ⊕ (Int32)) := (if (st 0) ≤ x9_4 then (some (.inr x8_5)) else (ogd (((12 : Int32) * x7_2) + x9_4) 144 (if (ia (Int32.toNatClampNeg (((12 : Int32) * x7_2) + x9_4))) = (0 : Int32) then (some (.inl ((x9_4 + (1 : Int32)), (x8_5 ||| ((1 : Int32) <<< (x9_4 &&& 31)))))) else (some (.inl ((x9_4 + (1 : Int32)), (x8_5 ||| (0 : Int32))))))))
def fX9_isOneMore_s105 (st : (Nat → Int32)) (x7_2 : Int32) (ia : (Nat → Int32)) (sg_ : Int32 × Int32) : Option ((Int32 × Int32) ⊕ (Int32)) := fX9_isOneMore_b105 st x7_2 ia sg_.1 sg_.2
def fX9_isOneMore_b88 (st : (Nat → Int32)) (ia : (Nat → Int32)) (p4 : Int32) (p5 : Int32) (x7_2 : Int32) (x6_2 : Int32) : Option ((Int32 × Int32) ⊕ (Int32)) := (if (st 0) ≤ x7_2 then (some (.inr x6_2)) else (ob1 (olp (fX9_isOneMore_s105 st x7_2 ia) oFu ((0 : Int32), (0 : Int32))) (fun x8_6 => (if x6_2 = (0 : Int32) then (ogd ((16 : Int32) + p4) 76 (ob1 (fX9_sizeOf ((st (Int32.toNatClampNeg ((16 : Int32) + p4))) &&& x8_6)) (fun r_3 => (ogd ((16 : Int32) + p5) 76 (ob1 (fX9_sizeOf ((st (Int32.toNatClampNeg ((16 : Int32) + p5))) &&& x8_6)) (fun r_4 => (if r_3 = r_4 then (some (.inl ((x7_2 + (1 : Int32)), (0 : Int32)))) else (some (.inl ((x7_2 + (1 : Int32)), (1 : Int32))))))))))) else (some (.inl ((x7_2 + (1 : Int32)), (1 : Int32))))))))
def fX9_isOneMore_s88 (st : (Nat → Int32)) (ia : (Nat → Int32)) (p4 : Int32) (p5 : Int32) (sg_ : Int32 × Int32) : Option ((Int32 × Int32) ⊕ (Int32)) := fX9_isOneMore_b88 st ia p4 p5 sg_.1 sg_.2
def fX9_isOneMore_b11 (st : (Nat → Int32)) (p4 : Int32) (p5 : Int32) (ia : (Nat → Int32)) (x7_4 : Int32) (x6_5 : Int32) : Option ((Int32 × Int32) ⊕ (Int32)) := (if (st 1) ≤ x7_4 then (some (.inr x6_5)) else (if x6_5 = (0 : Int32) then (ogd (((28 : Int32) + ((3 : Int32) * p4)) + x7_4) 76 (ogd (((28 : Int32) + ((3 : Int32) * p5)) + x7_4) 76 (ogd (((12 : Int32) * (st (Int32.toNatClampNeg (((28 : Int32) + ((3 : Int32) * p4)) + x7_4)))) + (st (Int32.toNatClampNeg (((28 : Int32) + ((3 : Int32) * p5)) + x7_4)))) 144 (if (ia (Int32.toNatClampNeg (((12 : Int32) * (st (Int32.toNatClampNeg (((28 : Int32) + ((3 : Int32) * p4)) + x7_4)))) + (st (Int32.toNatClampNeg (((28 : Int32) + ((3 : Int32) * p5)) + x7_4)))))) = (0 : Int32) then (some (.inl ((x7_4 + (1 : Int32)), (0 : Int32)))) else (some (.inl ((x7_4 + (1 : Int32)), (1 : Int32)))))))) else (some (.inl ((x7_4 + (1 : Int32)), (1 : Int32))))))
def fX9_isOneMore_s11 (st : (Nat → Int32)) (p4 : Int32) (p5 : Int32) (ia : (Nat → Int32)) (sg_ : Int32 × Int32) : Option ((Int32 × Int32) ⊕ (Int32)) := fX9_isOneMore_b11 st p4 p5 ia sg_.1 sg_.2
def fX9_isOneMore (p2 : Int32) (p3 : Int32) (p4 : Int32) (p5 : Int32) (deeds : Int32) (sd : Int32) (ent : Int32) (st : (Nat → Int32)) (ia : (Nat → Int32)) : Option (Int32) := (if p3 = (3 : Int32) then (ob1 (olp (fX9_isOneMore_s11 st p4 p5 ia) oFu ((0 : Int32), (0 : Int32))) (fun x6_6 => (obl x6_6 (some x6_6)))) else (ob1 (olp (fX9_isOneMore_s88 st ia p4 p5) oFu ((0 : Int32), (0 : Int32))) (fun x6_3 => (obl x6_3 (some x6_3)))))
abbrev wX9_isOneMore (cI cZ cM cS : ClassId) (mo mst mpa mim mik mbi mbk mnr mia min mas mpr mfa mme mse rowa : Nat) (deeds : Int32) (sd : Int32) (ent : Int32) (st : (Nat → Int32)) (ia : (Nat → Int32)) : va_W := [(mo, .inr (9, [.ref mst, .ref mpa, .int deeds, .ref mim, .ref mik, .int sd, .ref mbi, .ref mbk, .int ent, .ref mnr, .ref mia, .ref min, .ref mas, .ref mpr, .ref mfa, .ref mme, .ref mse])), (mst, .inl (cI, 76, .inl st)), (mia, .inl (cZ, 144, .inl ia))]
set_option maxHeartbeats 4000000 in
set_option maxRecDepth 100000 in
theorem tX9_isOneMore (l : Launch) (D : va_G) (cI cZ cM cS : ClassId) (mo mst mpa mim mik mbi mbk mnr mia min mas mpr mfa mme mse rowa : Nat) (deeds : Int32) (sd : Int32) (ent : Int32) (st : (Nat → Int32)) (ia : (Nat → Int32)) (p2 : Int32) (p3 : Int32) (p4 : Int32) (p5 : Int32) {r : Int32} (hF : fX9_isOneMore p2 p3 p4 p5 deeds sd ent st ia = some r) : zCR l yX9_isOneMore wsX9_isOneMore (zRm 1 22) D (zTy cI cZ cM cS) [.ref mo, .ref rowa, .int p2, .int p3, .int p4, .int p5] (wX9_isOneMore cI cZ cM cS mo mst mpa mim mik mbi mbk mnr mia min mas mpr mfa mme mse rowa deeds sd ent st ia) r := by
  unfold fX9_isOneMore at hF
  refine zCR_of (cc := cX9_isOneMore) (maxL := 10) (own := RX9) (by decide +kernel) rfl rfl (Nat.le_of_ble_eq_true rfl) (fun p e s m args below meth c Q ls E hK hP hRet hl => ?_)
  have hl : lv_has ls 10 [(0, .ref mo), (1, .ref rowa), (2, .int p2), (3, .int p3), (4, .int p4), (5, .int p5)] := hl
  obtain ⟨hx, hb, hml, hown, hts⟩ := id E
  have inX9 : ∀ w ∈ u_ws RX9 TX9 17, w ∈ wsX9_isOneMore := by decide +kernel
  have fl32 := hts (.fieldLink RX9 32 "SplitClassesModel" "isApart" "[Z") (by decide +kernel)
  have fl7 := hts (.fieldLink RX9 7 "SplitClassesModel" "st" "[I") (by decide +kernel)
  refine lv_iconst (v := (0 : Int32)) (pc := 0) hx hb dX9_isOneMore_0 (by decide) ?_
  refine lv_istore (lv' := [(6, .int (0 : Int32)), (0, .ref mo), (1, .ref rowa), (2, .int p2), (3, .int p3), (4, .int p4), (5, .int p5)]) (pc := 1) hx hb dX9_isOneMore_1 hl (by decide) rfl (fun ls hl => ?_)
  refine lv_iload_n (pc := 3) hx hb dX9_isOneMore_3 rfl (lv_at hl 4 rfl) ?_
  refine lv_iconst (v := (3 : Int32)) (pc := 4) hx hb dX9_isOneMore_4 (by decide) ?_
  refine lv_icmp_ne (pc := 5) (tgt := 85) hx hb dX9_isOneMore_5 (by decide) (fun hc => ?_) (fun hc => ?_)
  · have hF := oif_f hF hc
    refine lv_iconst (v := (0 : Int32)) (pc := 85) hx hb dX9_isOneMore_85 (by decide) ?_
    refine lv_istore (lv' := [(7, .int (0 : Int32)), (6, .int (0 : Int32)), (0, .ref mo), (1, .ref rowa), (2, .int p2), (3, .int p3), (4, .int p4), (5, .int p5)]) (pc := 86) hx hb dX9_isOneMore_86 hl (by decide) rfl (fun ls hl => ?_)
    obtain ⟨x6_3, hL8, hF⟩ := ob1_e hF
    have ex8 : ∀ (ls : Array Slot), lv_has ls 10 [(6, .int x6_3)] → W p l e (zRm 1 22) s m args below meth c s.heap [] 0 0 Q (F0 m 204 ls []) := by
      intro ls hl
      refine lv_iload (pc := 204) hx hb dX9_isOneMore_204 (lv_at hl 0 rfl) ?_
      obtain ⟨hb16, hF⟩ := obl_e hF
      cases hF
      exact hRet _ _ hb16 dX9_isOneMore_206
    have lp8 : ∀ (n : Nat) (x7_2 : Int32) (x6_2 : Int32) (ls : Array Slot), olp (fX9_isOneMore_s88 st ia p4 p5) n (x7_2, x6_2) = some x6_3 → lv_has ls 10 [(7, .int x7_2), (6, .int x6_2), (0, .ref mo), (4, .int p4), (5, .int p5)] → W p l e (zRm 1 22) s m args below meth c s.heap [] 0 0 Q (F0 m 88 ls []) := by
      intro n
      induction n with
      | zero => intro x7_2 x6_2 ls hL; exact olp_0 hL
      | succ n ih =>
        intro x7_2 x6_2 ls hL8 hl
        obtain ⟨z, hz8, hL8⟩ := olp_e hL8
        have hz8 : fX9_isOneMore_b88 st ia p4 p5 x7_2 x6_2 = some z := hz8
        unfold fX9_isOneMore_b88 at hz8
        refine lv_iload (pc := 88) hx hb dX9_isOneMore_88 (lv_at hl 0 rfl) ?_
        refine lv_aload_n (pc := 90) hx hb dX9_isOneMore_90 rfl (lv_at hl 2 rfl) ?_
        refine va_get (pc := 91) (ci := 9) (C := RX9) (T := TX9) (N := 17) hx hb hts inX9 hown hK hP 0 rfl rfl 0 (by decide) fl7 (fun _ h9 => h9) rfl dX9_isOneMore_91 ?_
        refine lv_iconst (v := (0 : Int32)) (pc := 94) hx hb dX9_isOneMore_94 (by decide) ?_
        refine z_iald (pc := 95) (k := 0) hx hb hK hP 1 0 rfl rfl (by decide) (by decide) dX9_isOneMore_95 ?_
        refine lv_icmp_ge (pc := 96) (tgt := 204) hx hb dX9_isOneMore_96 (by decide) (fun hc => ?_) (fun hc => ?_)
        · have hz8 := oif_t hz8 hc
          have hE := olp_r hz8 hL8
          cases hE
          exact ex8 _ (lv_sub hl [1] rfl)
        · have hz8 := oif_f hz8 hc
          refine lv_iconst (v := (0 : Int32)) (pc := 99) hx hb dX9_isOneMore_99 (by decide) ?_
          refine lv_istore (lv' := [(8, .int (0 : Int32)), (7, .int x7_2), (6, .int x6_2), (0, .ref mo), (4, .int p4), (5, .int p5)]) (pc := 100) hx hb dX9_isOneMore_100 hl (by decide) rfl (fun ls hl => ?_)
          refine lv_iconst (v := (0 : Int32)) (pc := 102) hx hb dX9_isOneMore_102 (by decide) ?_
          refine lv_istore (lv' := [(9, .int (0 : Int32)), (8, .int (0 : Int32)), (7, .int x7_2), (6, .int x6_2), (0, .ref mo), (4, .int p4), (5, .int p5)]) (pc := 103) hx hb dX9_isOneMore_103 hl (by decide) rfl (fun ls hl => ?_)
          obtain ⟨x8_6, hL10, hz8⟩ := ob1_e hz8
          have ex10 : ∀ (ls : Array Slot), lv_has ls 10 [(8, .int x8_6), (7, .int x7_2), (6, .int x6_2), (0, .ref mo), (4, .int p4), (5, .int p5)] → W p l e (zRm 1 22) s m args below meth c s.heap [] 0 0 Q (F0 m 151 ls []) := by
            intro ls hl
            refine lv_iload (pc := 151) hx hb dX9_isOneMore_151 (lv_at hl 2 rfl) ?_
            refine lv_if_ne (pc := 153) (tgt := 191) hx hb dX9_isOneMore_153 (by decide) (fun hc => ?_) (fun hc => ?_)
            · have hz8 := oif_f hz8 hc
              refine lv_iconst (v := (1 : Int32)) (pc := 191) hx hb dX9_isOneMore_191 (by decide) ?_
              refine lv_goto (pc := 192) (tgt := 196) hx hb dX9_isOneMore_192 (by decide) ?_
              refine lv_istore (lv' := [(6, .int (1 : Int32)), (8, .int x8_6), (7, .int x7_2), (0, .ref mo), (4, .int p4), (5, .int p5)]) (pc := 196) hx hb dX9_isOneMore_196 hl (by decide) rfl (fun ls hl => ?_)
              refine lv_iinc (v := (x7_2 + (1 : Int32))) (lv' := [(7, .int (x7_2 + (1 : Int32))), (6, .int (1 : Int32)), (8, .int x8_6), (0, .ref mo), (4, .int p4), (5, .int p5)]) (pc := 198) hx hb dX9_isOneMore_198 hl (k := 2) rfl rfl (by decide) rfl (fun ls hl => ?_)
              refine lv_goto (pc := 201) (tgt := 88) hx hb dX9_isOneMore_201 (by decide) ?_
              exact ih _ _ _ (olp_l hz8 hL8) (lv_sub hl [0, 1, 3, 4, 5] rfl)
            · have hz8 := oif_t hz8 hc
              refine lv_aload_n (pc := 156) hx hb dX9_isOneMore_156 rfl (lv_at hl 3 rfl) ?_
              refine va_get (pc := 157) (ci := 9) (C := RX9) (T := TX9) (N := 17) hx hb hts inX9 hown hK hP 0 rfl rfl 0 (by decide) fl7 (fun _ h9 => h9) rfl dX9_isOneMore_157 ?_
              refine lv_bipush (v := (16 : Int32)) (pc := 160) hx hb dX9_isOneMore_160 (by decide) ?_
              refine lv_iload (pc := 162) hx hb dX9_isOneMore_162 (lv_at hl 4 rfl) ?_
              refine lv_iadd (pc := 164) hx hb dX9_isOneMore_164 ?_
              obtain ⟨hg12, hz8⟩ := ogd_e hz8
              refine va_iald (pc := 165) hx hb hK hP 1 0 rfl rfl hg12 dX9_isOneMore_165 ?_
              refine lv_iload (pc := 166) hx hb dX9_isOneMore_166 (lv_at hl 0 rfl) ?_
              refine lv_iand (pc := 168) hx hb dX9_isOneMore_168 ?_
              obtain ⟨r_3, hC13, hz8⟩ := ob1_e hz8
              refine zSr (pc := 169) (As := [.int ((st (Int32.toNatClampNeg ((16 : Int32) + p4))) &&& x8_6)]) (rest := []) E (tX9_sizeOf l D cI cZ cM cS ((st (Int32.toNatClampNeg ((16 : Int32) + p4))) &&& x8_6) hC13) 1 gX9_isOneMore_X9_sizeOf rfl rfl rfl (by decide +kernel) ⟨Nat.le_of_ble_eq_true rfl, Nat.le_of_ble_eq_true rfl⟩ hK hP [] rfl rfl hl.1 rfl (Nat.le_of_ble_eq_true rfl) dX9_isOneMore_169 ⟨Nat.zero_le _, Nat.zero_le _⟩ ?_
              refine lv_aload_n (pc := 172) hx hb dX9_isOneMore_172 rfl (lv_at hl 3 rfl) ?_
              refine va_get (pc := 173) (ci := 9) (C := RX9) (T := TX9) (N := 17) hx hb hts inX9 hown hK hP 0 rfl rfl 0 (by decide) fl7 (fun _ h9 => h9) rfl dX9_isOneMore_173 ?_
              refine lv_bipush (v := (16 : Int32)) (pc := 176) hx hb dX9_isOneMore_176 (by decide) ?_
              refine lv_iload (pc := 178) hx hb dX9_isOneMore_178 (lv_at hl 5 rfl) ?_
              refine lv_iadd (pc := 180) hx hb dX9_isOneMore_180 ?_
              obtain ⟨hg14, hz8⟩ := ogd_e hz8
              refine va_iald (pc := 181) hx hb hK hP 1 0 rfl rfl hg14 dX9_isOneMore_181 ?_
              refine lv_iload (pc := 182) hx hb dX9_isOneMore_182 (lv_at hl 0 rfl) ?_
              refine lv_iand (pc := 184) hx hb dX9_isOneMore_184 ?_
              obtain ⟨r_4, hC15, hz8⟩ := ob1_e hz8
              refine zSr (pc := 185) (As := [.int ((st (Int32.toNatClampNeg ((16 : Int32) + p5))) &&& x8_6)]) (rest := [.int r_3]) E (tX9_sizeOf l D cI cZ cM cS ((st (Int32.toNatClampNeg ((16 : Int32) + p5))) &&& x8_6) hC15) 1 gX9_isOneMore_X9_sizeOf rfl rfl rfl (by decide +kernel) ⟨Nat.le_of_ble_eq_true rfl, Nat.le_of_ble_eq_true rfl⟩ hK hP [] rfl rfl hl.1 rfl (Nat.le_of_ble_eq_true rfl) dX9_isOneMore_185 ⟨Nat.zero_le _, Nat.zero_le _⟩ ?_
              refine lv_icmp_eq (pc := 188) (tgt := 195) hx hb dX9_isOneMore_188 (by decide) (fun hc => ?_) (fun hc => ?_)
              · have hz8 := oif_t hz8 hc
                refine lv_iconst (v := (0 : Int32)) (pc := 195) hx hb dX9_isOneMore_195 (by decide) ?_
                refine lv_istore (lv' := [(6, .int (0 : Int32)), (8, .int x8_6), (7, .int x7_2), (0, .ref mo), (4, .int p4), (5, .int p5)]) (pc := 196) hx hb dX9_isOneMore_196 hl (by decide) rfl (fun ls hl => ?_)
                refine lv_iinc (v := (x7_2 + (1 : Int32))) (lv' := [(7, .int (x7_2 + (1 : Int32))), (6, .int (0 : Int32)), (8, .int x8_6), (0, .ref mo), (4, .int p4), (5, .int p5)]) (pc := 198) hx hb dX9_isOneMore_198 hl (k := 2) rfl rfl (by decide) rfl (fun ls hl => ?_)
                refine lv_goto (pc := 201) (tgt := 88) hx hb dX9_isOneMore_201 (by decide) ?_
                exact ih _ _ _ (olp_l hz8 hL8) (lv_sub hl [0, 1, 3, 4, 5] rfl)
              · have hz8 := oif_f hz8 hc
                refine lv_iconst (v := (1 : Int32)) (pc := 191) hx hb dX9_isOneMore_191 (by decide) ?_
                refine lv_goto (pc := 192) (tgt := 196) hx hb dX9_isOneMore_192 (by decide) ?_
                refine lv_istore (lv' := [(6, .int (1 : Int32)), (8, .int x8_6), (7, .int x7_2), (0, .ref mo), (4, .int p4), (5, .int p5)]) (pc := 196) hx hb dX9_isOneMore_196 hl (by decide) rfl (fun ls hl => ?_)
                refine lv_iinc (v := (x7_2 + (1 : Int32))) (lv' := [(7, .int (x7_2 + (1 : Int32))), (6, .int (1 : Int32)), (8, .int x8_6), (0, .ref mo), (4, .int p4), (5, .int p5)]) (pc := 198) hx hb dX9_isOneMore_198 hl (k := 2) rfl rfl (by decide) rfl (fun ls hl => ?_)
                refine lv_goto (pc := 201) (tgt := 88) hx hb dX9_isOneMore_201 (by decide) ?_
                exact ih _ _ _ (olp_l hz8 hL8) (lv_sub hl [0, 1, 3, 4, 5] rfl)
          have lp10 : ∀ (n : Nat) (x9_4 : Int32) (x8_5 : Int32) (ls : Array Slot), olp (fX9_isOneMore_s105 st x7_2 ia) n (x9_4, x8_5) = some x8_6 → lv_has ls 10 [(9, .int x9_4), (8, .int x8_5), (7, .int x7_2), (6, .int x6_2), (0, .ref mo), (4, .int p4), (5, .int p5)] → W p l e (zRm 1 22) s m args below meth c s.heap [] 0 0 Q (F0 m 105 ls []) := by
            intro n
            induction n with
            | zero => intro x9_4 x8_5 ls hL; exact olp_0 hL
            | succ n ih =>
              intro x9_4 x8_5 ls hL10 hl
              obtain ⟨z, hz10, hL10⟩ := olp_e hL10
              have hz10 : fX9_isOneMore_b105 st x7_2 ia x9_4 x8_5 = some z := hz10
              unfold fX9_isOneMore_b105 at hz10
              refine lv_iload (pc := 105) hx hb dX9_isOneMore_105 (lv_at hl 0 rfl) ?_
              refine lv_aload_n (pc := 107) hx hb dX9_isOneMore_107 rfl (lv_at hl 4 rfl) ?_
              refine va_get (pc := 108) (ci := 9) (C := RX9) (T := TX9) (N := 17) hx hb hts inX9 hown hK hP 0 rfl rfl 0 (by decide) fl7 (fun _ h9 => h9) rfl dX9_isOneMore_108 ?_
              refine lv_iconst (v := (0 : Int32)) (pc := 111) hx hb dX9_isOneMore_111 (by decide) ?_
              refine z_iald (pc := 112) (k := 0) hx hb hK hP 1 0 rfl rfl (by decide) (by decide) dX9_isOneMore_112 ?_
              refine lv_icmp_ge (pc := 113) (tgt := 151) hx hb dX9_isOneMore_113 (by decide) (fun hc => ?_) (fun hc => ?_)
              · have hz10 := oif_t hz10 hc
                have hE := olp_r hz10 hL10
                cases hE
                exact ex10 _ (lv_sub hl [1, 2, 3, 4, 5, 6] rfl)
              · have hz10 := oif_f hz10 hc
                refine lv_iload (pc := 116) hx hb dX9_isOneMore_116 (lv_at hl 1 rfl) ?_
                refine lv_aload_n (pc := 118) hx hb dX9_isOneMore_118 rfl (lv_at hl 4 rfl) ?_
                refine va_get (pc := 119) (ci := 9) (C := RX9) (T := TX9) (N := 17) hx hb hts inX9 hown hK hP 0 rfl rfl 10 (by decide) fl32 (fun _ h9 => h9) rfl dX9_isOneMore_119 ?_
                refine lv_bipush (v := (12 : Int32)) (pc := 122) hx hb dX9_isOneMore_122 (by decide) ?_
                refine lv_iload (pc := 124) hx hb dX9_isOneMore_124 (lv_at hl 2 rfl) ?_
                refine lv_imul (pc := 126) hx hb dX9_isOneMore_126 ?_
                refine lv_iload (pc := 127) hx hb dX9_isOneMore_127 (lv_at hl 0 rfl) ?_
                refine lv_iadd (pc := 129) hx hb dX9_isOneMore_129 ?_
                obtain ⟨hg11, hz10⟩ := ogd_e hz10
                refine va_zald (pc := 130) hx hb hK hP 2 1 rfl rfl hg11 dX9_isOneMore_130 ?_
                refine lv_if_eq (pc := 131) (tgt := 138) hx hb dX9_isOneMore_131 (by decide) (fun hc => ?_) (fun hc => ?_)
                · have hz10 := oif_t hz10 hc
                  refine lv_iconst (v := (1 : Int32)) (pc := 138) hx hb dX9_isOneMore_138 (by decide) ?_
                  refine lv_iload (pc := 139) hx hb dX9_isOneMore_139 (lv_at hl 0 rfl) ?_
                  refine lv_ishl (pc := 141) hx hb dX9_isOneMore_141 ?_
                  refine lv_ior (pc := 142) hx hb dX9_isOneMore_142 ?_
                  refine lv_istore (lv' := [(8, .int (x8_5 ||| ((1 : Int32) <<< (x9_4 &&& 31)))), (9, .int x9_4), (7, .int x7_2), (6, .int x6_2), (0, .ref mo), (4, .int p4), (5, .int p5)]) (pc := 143) hx hb dX9_isOneMore_143 hl (by decide) rfl (fun ls hl => ?_)
                  refine lv_iinc (v := (x9_4 + (1 : Int32))) (lv' := [(9, .int (x9_4 + (1 : Int32))), (8, .int (x8_5 ||| ((1 : Int32) <<< (x9_4 &&& 31)))), (7, .int x7_2), (6, .int x6_2), (0, .ref mo), (4, .int p4), (5, .int p5)]) (pc := 145) hx hb dX9_isOneMore_145 hl (k := 1) rfl rfl (by decide) rfl (fun ls hl => ?_)
                  refine lv_goto (pc := 148) (tgt := 105) hx hb dX9_isOneMore_148 (by decide) ?_
                  exact ih _ _ _ (olp_l hz10 hL10) (lv_sub hl [0, 1, 2, 3, 4, 5, 6] rfl)
                · have hz10 := oif_f hz10 hc
                  refine lv_iconst (v := (0 : Int32)) (pc := 134) hx hb dX9_isOneMore_134 (by decide) ?_
                  refine lv_goto (pc := 135) (tgt := 142) hx hb dX9_isOneMore_135 (by decide) ?_
                  refine lv_ior (pc := 142) hx hb dX9_isOneMore_142 ?_
                  refine lv_istore (lv' := [(8, .int (x8_5 ||| (0 : Int32))), (9, .int x9_4), (7, .int x7_2), (6, .int x6_2), (0, .ref mo), (4, .int p4), (5, .int p5)]) (pc := 143) hx hb dX9_isOneMore_143 hl (by decide) rfl (fun ls hl => ?_)
                  refine lv_iinc (v := (x9_4 + (1 : Int32))) (lv' := [(9, .int (x9_4 + (1 : Int32))), (8, .int (x8_5 ||| (0 : Int32))), (7, .int x7_2), (6, .int x6_2), (0, .ref mo), (4, .int p4), (5, .int p5)]) (pc := 145) hx hb dX9_isOneMore_145 hl (k := 1) rfl rfl (by decide) rfl (fun ls hl => ?_)
                  refine lv_goto (pc := 148) (tgt := 105) hx hb dX9_isOneMore_148 (by decide) ?_
                  exact ih _ _ _ (olp_l hz10 hL10) (lv_sub hl [0, 1, 2, 3, 4, 5, 6] rfl)
          exact lp10 oFu _ _ _ hL10 (lv_sub hl [0, 1, 2, 3, 4, 5, 6] rfl)
    exact lp8 oFu _ _ _ hL8 (lv_sub hl [0, 1, 2, 6, 7] rfl)
  · have hF := oif_t hF hc
    refine lv_iconst (v := (0 : Int32)) (pc := 8) hx hb dX9_isOneMore_8 (by decide) ?_
    refine lv_istore (lv' := [(7, .int (0 : Int32)), (6, .int (0 : Int32)), (0, .ref mo), (1, .ref rowa), (2, .int p2), (3, .int p3), (4, .int p4), (5, .int p5)]) (pc := 9) hx hb dX9_isOneMore_9 hl (by decide) rfl (fun ls hl => ?_)
    obtain ⟨x6_6, hL20, hF⟩ := ob1_e hF
    have ex20 : ∀ (ls : Array Slot), lv_has ls 10 [(6, .int x6_6)] → W p l e (zRm 1 22) s m args below meth c s.heap [] 0 0 Q (F0 m 82 ls []) := by
      intro ls hl
      refine lv_iload (pc := 82) hx hb dX9_isOneMore_82 (lv_at hl 0 rfl) ?_
      obtain ⟨hb24, hF⟩ := obl_e hF
      cases hF
      exact hRet _ _ hb24 dX9_isOneMore_84
    have lp20 : ∀ (n : Nat) (x7_4 : Int32) (x6_5 : Int32) (ls : Array Slot), olp (fX9_isOneMore_s11 st p4 p5 ia) n (x7_4, x6_5) = some x6_6 → lv_has ls 10 [(7, .int x7_4), (6, .int x6_5), (0, .ref mo), (4, .int p4), (5, .int p5)] → W p l e (zRm 1 22) s m args below meth c s.heap [] 0 0 Q (F0 m 11 ls []) := by
      intro n
      induction n with
      | zero => intro x7_4 x6_5 ls hL; exact olp_0 hL
      | succ n ih =>
        intro x7_4 x6_5 ls hL20 hl
        obtain ⟨z, hz20, hL20⟩ := olp_e hL20
        have hz20 : fX9_isOneMore_b11 st p4 p5 ia x7_4 x6_5 = some z := hz20
        unfold fX9_isOneMore_b11 at hz20
        refine lv_iload (pc := 11) hx hb dX9_isOneMore_11 (lv_at hl 0 rfl) ?_
        refine lv_aload_n (pc := 13) hx hb dX9_isOneMore_13 rfl (lv_at hl 2 rfl) ?_
        refine va_get (pc := 14) (ci := 9) (C := RX9) (T := TX9) (N := 17) hx hb hts inX9 hown hK hP 0 rfl rfl 0 (by decide) fl7 (fun _ h9 => h9) rfl dX9_isOneMore_14 ?_
        refine lv_iconst (v := (1 : Int32)) (pc := 17) hx hb dX9_isOneMore_17 (by decide) ?_
        refine z_iald (pc := 18) (k := 1) hx hb hK hP 1 0 rfl rfl (by decide) (by decide) dX9_isOneMore_18 ?_
        refine lv_icmp_ge (pc := 19) (tgt := 82) hx hb dX9_isOneMore_19 (by decide) (fun hc => ?_) (fun hc => ?_)
        · have hz20 := oif_t hz20 hc
          have hE := olp_r hz20 hL20
          cases hE
          exact ex20 _ (lv_sub hl [1] rfl)
        · have hz20 := oif_f hz20 hc
          refine lv_iload (pc := 22) hx hb dX9_isOneMore_22 (lv_at hl 1 rfl) ?_
          refine lv_if_ne (pc := 24) (tgt := 69) hx hb dX9_isOneMore_24 (by decide) (fun hc => ?_) (fun hc => ?_)
          · have hz20 := oif_f hz20 hc
            refine lv_iconst (v := (1 : Int32)) (pc := 69) hx hb dX9_isOneMore_69 (by decide) ?_
            refine lv_goto (pc := 70) (tgt := 74) hx hb dX9_isOneMore_70 (by decide) ?_
            refine lv_istore (lv' := [(6, .int (1 : Int32)), (7, .int x7_4), (0, .ref mo), (4, .int p4), (5, .int p5)]) (pc := 74) hx hb dX9_isOneMore_74 hl (by decide) rfl (fun ls hl => ?_)
            refine lv_iinc (v := (x7_4 + (1 : Int32))) (lv' := [(7, .int (x7_4 + (1 : Int32))), (6, .int (1 : Int32)), (0, .ref mo), (4, .int p4), (5, .int p5)]) (pc := 76) hx hb dX9_isOneMore_76 hl (k := 1) rfl rfl (by decide) rfl (fun ls hl => ?_)
            refine lv_goto (pc := 79) (tgt := 11) hx hb dX9_isOneMore_79 (by decide) ?_
            exact ih _ _ _ (olp_l hz20 hL20) (lv_sub hl [0, 1, 2, 3, 4] rfl)
          · have hz20 := oif_t hz20 hc
            refine lv_aload_n (pc := 27) hx hb dX9_isOneMore_27 rfl (lv_at hl 2 rfl) ?_
            refine va_get (pc := 28) (ci := 9) (C := RX9) (T := TX9) (N := 17) hx hb hts inX9 hown hK hP 0 rfl rfl 10 (by decide) fl32 (fun _ h9 => h9) rfl dX9_isOneMore_28 ?_
            refine lv_bipush (v := (12 : Int32)) (pc := 31) hx hb dX9_isOneMore_31 (by decide) ?_
            refine lv_aload_n (pc := 33) hx hb dX9_isOneMore_33 rfl (lv_at hl 2 rfl) ?_
            refine va_get (pc := 34) (ci := 9) (C := RX9) (T := TX9) (N := 17) hx hb hts inX9 hown hK hP 0 rfl rfl 0 (by decide) fl7 (fun _ h9 => h9) rfl dX9_isOneMore_34 ?_
            refine lv_bipush (v := (28 : Int32)) (pc := 37) hx hb dX9_isOneMore_37 (by decide) ?_
            refine lv_iconst (v := (3 : Int32)) (pc := 39) hx hb dX9_isOneMore_39 (by decide) ?_
            refine lv_iload (pc := 40) hx hb dX9_isOneMore_40 (lv_at hl 3 rfl) ?_
            refine lv_imul (pc := 42) hx hb dX9_isOneMore_42 ?_
            refine lv_iadd (pc := 43) hx hb dX9_isOneMore_43 ?_
            refine lv_iload (pc := 44) hx hb dX9_isOneMore_44 (lv_at hl 0 rfl) ?_
            refine lv_iadd (pc := 46) hx hb dX9_isOneMore_46 ?_
            obtain ⟨hg21, hz20⟩ := ogd_e hz20
            refine va_iald (pc := 47) hx hb hK hP 1 0 rfl rfl hg21 dX9_isOneMore_47 ?_
            refine lv_imul (pc := 48) hx hb dX9_isOneMore_48 ?_
            refine lv_aload_n (pc := 49) hx hb dX9_isOneMore_49 rfl (lv_at hl 2 rfl) ?_
            refine va_get (pc := 50) (ci := 9) (C := RX9) (T := TX9) (N := 17) hx hb hts inX9 hown hK hP 0 rfl rfl 0 (by decide) fl7 (fun _ h9 => h9) rfl dX9_isOneMore_50 ?_
            refine lv_bipush (v := (28 : Int32)) (pc := 53) hx hb dX9_isOneMore_53 (by decide) ?_
            refine lv_iconst (v := (3 : Int32)) (pc := 55) hx hb dX9_isOneMore_55 (by decide) ?_
            refine lv_iload (pc := 56) hx hb dX9_isOneMore_56 (lv_at hl 4 rfl) ?_
            refine lv_imul (pc := 58) hx hb dX9_isOneMore_58 ?_
            refine lv_iadd (pc := 59) hx hb dX9_isOneMore_59 ?_
            refine lv_iload (pc := 60) hx hb dX9_isOneMore_60 (lv_at hl 0 rfl) ?_
            refine lv_iadd (pc := 62) hx hb dX9_isOneMore_62 ?_
            obtain ⟨hg22, hz20⟩ := ogd_e hz20
            refine va_iald (pc := 63) hx hb hK hP 1 0 rfl rfl hg22 dX9_isOneMore_63 ?_
            refine lv_iadd (pc := 64) hx hb dX9_isOneMore_64 ?_
            obtain ⟨hg23, hz20⟩ := ogd_e hz20
            refine va_zald (pc := 65) hx hb hK hP 2 1 rfl rfl hg23 dX9_isOneMore_65 ?_
            refine lv_if_eq (pc := 66) (tgt := 73) hx hb dX9_isOneMore_66 (by decide) (fun hc => ?_) (fun hc => ?_)
            · have hz20 := oif_t hz20 hc
              refine lv_iconst (v := (0 : Int32)) (pc := 73) hx hb dX9_isOneMore_73 (by decide) ?_
              refine lv_istore (lv' := [(6, .int (0 : Int32)), (7, .int x7_4), (0, .ref mo), (4, .int p4), (5, .int p5)]) (pc := 74) hx hb dX9_isOneMore_74 hl (by decide) rfl (fun ls hl => ?_)
              refine lv_iinc (v := (x7_4 + (1 : Int32))) (lv' := [(7, .int (x7_4 + (1 : Int32))), (6, .int (0 : Int32)), (0, .ref mo), (4, .int p4), (5, .int p5)]) (pc := 76) hx hb dX9_isOneMore_76 hl (k := 1) rfl rfl (by decide) rfl (fun ls hl => ?_)
              refine lv_goto (pc := 79) (tgt := 11) hx hb dX9_isOneMore_79 (by decide) ?_
              exact ih _ _ _ (olp_l hz20 hL20) (lv_sub hl [0, 1, 2, 3, 4] rfl)
            · have hz20 := oif_f hz20 hc
              refine lv_iconst (v := (1 : Int32)) (pc := 69) hx hb dX9_isOneMore_69 (by decide) ?_
              refine lv_goto (pc := 70) (tgt := 74) hx hb dX9_isOneMore_70 (by decide) ?_
              refine lv_istore (lv' := [(6, .int (1 : Int32)), (7, .int x7_4), (0, .ref mo), (4, .int p4), (5, .int p5)]) (pc := 74) hx hb dX9_isOneMore_74 hl (by decide) rfl (fun ls hl => ?_)
              refine lv_iinc (v := (x7_4 + (1 : Int32))) (lv' := [(7, .int (x7_4 + (1 : Int32))), (6, .int (1 : Int32)), (0, .ref mo), (4, .int p4), (5, .int p5)]) (pc := 76) hx hb dX9_isOneMore_76 hl (k := 1) rfl rfl (by decide) rfl (fun ls hl => ?_)
              refine lv_goto (pc := 79) (tgt := 11) hx hb dX9_isOneMore_79 (by decide) ?_
              exact ih _ _ _ (olp_l hz20 hL20) (lv_sub hl [0, 1, 2, 3, 4] rfl)
    exact lp20 oFu _ _ _ hL20 (lv_sub hl [0, 1, 2, 6, 7] rfl)
def fX9_tellsApart_b17 (st : (Nat → Int32)) (p3 : Int32) (x4_2 : Int32) (p2 : Int32) (x5_4 : Int32) (ia_8 : (Nat → Int32)) : Option ((Int32 × (Nat → Int32)) ⊕ ((Nat → Int32))) := (if (st 0) ≤ x5_4 then (some (.inr ia_8)) else (ob1 (if p3 = (3 : Int32) then (ob1 (fX9_has (st 2) x4_2) (fun r_9 => (ob1 (fX9_has (st 2) x5_4) (fun r_10 => (if r_9 = r_10 then (some (0 : Int32)) else (some (1 : Int32))))))) else (some (0 : Int32))) (fun z0_7 => (ogd (p2 + x4_2) 76 (ogd (p2 + x5_4) 76 (ob1 (if (st (Int32.toNatClampNeg (p2 + x4_2))) = (st (Int32.toNatClampNeg (p2 + x5_4))) then (if z0_7 = (0 : Int32) then (some (0 : Int32)) else (some (1 : Int32))) else (some (1 : Int32))) (fun z0_8 => (ogd (((12 : Int32) * x4_2) + x5_4) 144 (some (.inl ((x5_4 + (1 : Int32)), (upd ia_8 (Int32.toNatClampNeg (((12 : Int32) * x4_2) + x5_4)) (vp_nar .boolean z0_8)))))))))))))
def fX9_tellsApart_s17 (st : (Nat → Int32)) (p3 : Int32) (x4_2 : Int32) (p2 : Int32) (sg_ : Int32 × (Nat → Int32)) : Option ((Int32 × (Nat → Int32)) ⊕ ((Nat → Int32))) := fX9_tellsApart_b17 st p3 x4_2 p2 sg_.1 sg_.2
def fX9_tellsApart_b3 (st : (Nat → Int32)) (p3 : Int32) (p2 : Int32) (x4_2 : Int32) (ia_5 : (Nat → Int32)) : Option ((Int32 × (Nat → Int32)) ⊕ ((Nat → Int32))) := (if (st 0) ≤ x4_2 then (some (.inr ia_5)) else (ob1 (olp (fX9_tellsApart_s17 st p3 x4_2 p2) oFu ((0 : Int32), ia_5)) (fun ia_9 => (some (.inl ((x4_2 + (1 : Int32)), ia_9))))))
def fX9_tellsApart_s3 (st : (Nat → Int32)) (p3 : Int32) (p2 : Int32) (sg_ : Int32 × (Nat → Int32)) : Option ((Int32 × (Nat → Int32)) ⊕ ((Nat → Int32))) := fX9_tellsApart_b3 st p3 p2 sg_.1 sg_.2
def fX9_tellsApart_b143 (st : (Nat → Int32)) (x5_10 : Int32) (ia_17 : (Nat → Int32)) (p2 : Int32) (p3 : Int32) (deeds : Int32) (sd : Int32) (ent : Int32) (x6_8 : Int32) (x4_21 : Int32) (inw_24 : (Nat → Int32)) : Option ((Int32 × Int32 × (Nat → Int32)) ⊕ (Int32 × (Nat → Int32))) := (if (st 0) ≤ x6_8 then (some (.inr (x4_21, inw_24))) else (ogd (((12 : Int32) * x5_10) + x6_8) 144 (ob1 (if (ia_17 (Int32.toNatClampNeg (((12 : Int32) * x5_10) + x6_8))) = (0 : Int32) then (ob1 (fX9_isOneMore p2 p3 x5_10 x6_8 deeds sd ent st ia_17) (fun r_19 => (if r_19 = (0 : Int32) then (some (0 : Int32)) else (some (1 : Int32))))) else (some (1 : Int32))) (fun z0_16 => (ogd (((12 : Int32) * x5_10) + x6_8) 144 (if x4_21 = (0 : Int32) then (ogd (((12 : Int32) * x5_10) + x6_8) 144 (ogd (((12 : Int32) * x5_10) + x6_8) 144 (if ((upd inw_24 (Int32.toNatClampNeg (((12 : Int32) * x5_10) + x6_8)) (vp_nar .boolean z0_16)) (Int32.toNatClampNeg (((12 : Int32) * x5_10) + x6_8))) = (ia_17 (Int32.toNatClampNeg (((12 : Int32) * x5_10) + x6_8))) then (some (.inl ((x6_8 + (1 : Int32)), (0 : Int32), (upd inw_24 (Int32.toNatClampNeg (((12 : Int32) * x5_10) + x6_8)) (vp_nar .boolean z0_16))))) else (some (.inl ((x6_8 + (1 : Int32)), (1 : Int32), (upd inw_24 (Int32.toNatClampNeg (((12 : Int32) * x5_10) + x6_8)) (vp_nar .boolean z0_16)))))))) else (some (.inl ((x6_8 + (1 : Int32)), (1 : Int32), (upd inw_24 (Int32.toNatClampNeg (((12 : Int32) * x5_10) + x6_8)) (vp_nar .boolean z0_16)))))))))))
def fX9_tellsApart_s143 (st : (Nat → Int32)) (x5_10 : Int32) (ia_17 : (Nat → Int32)) (p2 : Int32) (p3 : Int32) (deeds : Int32) (sd : Int32) (ent : Int32) (sg_ : Int32 × Int32 × (Nat → Int32)) : Option ((Int32 × Int32 × (Nat → Int32)) ⊕ (Int32 × (Nat → Int32))) := fX9_tellsApart_b143 st x5_10 ia_17 p2 p3 deeds sd ent sg_.1 sg_.2.1 sg_.2.2
def fX9_tellsApart_b129 (st : (Nat → Int32)) (ia_17 : (Nat → Int32)) (p2 : Int32) (p3 : Int32) (deeds : Int32) (sd : Int32) (ent : Int32) (x5_10 : Int32) (x4_18 : Int32) (inw_21 : (Nat → Int32)) : Option ((Int32 × Int32 × (Nat → Int32)) ⊕ (Int32 × (Nat → Int32))) := (if (st 0) ≤ x5_10 then (some (.inr (x4_18, inw_21))) else (ob2 (olp (fX9_tellsApart_s143 st x5_10 ia_17 p2 p3 deeds sd ent) oFu ((0 : Int32), x4_18, inw_21)) (fun x4_22 inw_25 => (some (.inl ((x5_10 + (1 : Int32)), x4_22, inw_25))))))
def fX9_tellsApart_s129 (st : (Nat → Int32)) (ia_17 : (Nat → Int32)) (p2 : Int32) (p3 : Int32) (deeds : Int32) (sd : Int32) (ent : Int32) (sg_ : Int32 × Int32 × (Nat → Int32)) : Option ((Int32 × Int32 × (Nat → Int32)) ⊕ (Int32 × (Nat → Int32))) := fX9_tellsApart_b129 st ia_17 p2 p3 deeds sd ent sg_.1 sg_.2.1 sg_.2.2
def fX9_tellsApart_b258 (inw_22 : (Nat → Int32)) (x5_12 : Int32) (ia_23 : (Nat → Int32)) : Option ((Int32 × (Nat → Int32)) ⊕ ((Nat → Int32))) := (if (144 : Int32) ≤ x5_12 then (some (.inr ia_23)) else (ogd x5_12 144 (ogd x5_12 144 (some (.inl ((x5_12 + (1 : Int32)), (upd ia_23 (Int32.toNatClampNeg x5_12) (vp_nar .boolean (inw_22 (Int32.toNatClampNeg x5_12))))))))))
def fX9_tellsApart_s258 (inw_22 : (Nat → Int32)) (sg_ : Int32 × (Nat → Int32)) : Option ((Int32 × (Nat → Int32)) ⊕ ((Nat → Int32))) := fX9_tellsApart_b258 inw_22 sg_.1 sg_.2
def fX9_tellsApart_b118 (st : (Nat → Int32)) (p2 : Int32) (p3 : Int32) (deeds : Int32) (sd : Int32) (ent : Int32) (x4_13 : Int32) (ia_17 : (Nat → Int32)) (inw_15 : (Nat → Int32)) : Option ((Int32 × (Nat → Int32) × (Nat → Int32)) ⊕ ((Nat → Int32) × (Nat → Int32))) := (if x4_13 = (0 : Int32) then (some (.inr (ia_17, inw_15))) else (ob2 (olp (fX9_tellsApart_s129 st ia_17 p2 p3 deeds sd ent) oFu ((0 : Int32), (0 : Int32), inw_15)) (fun x4_19 inw_22 => (ob1 (olp (fX9_tellsApart_s258 inw_22) oFu ((0 : Int32), ia_17)) (fun ia_24 => (some (.inl (x4_19, ia_24, inw_22))))))))
def fX9_tellsApart_s118 (st : (Nat → Int32)) (p2 : Int32) (p3 : Int32) (deeds : Int32) (sd : Int32) (ent : Int32) (sg_ : Int32 × (Nat → Int32) × (Nat → Int32)) : Option ((Int32 × (Nat → Int32) × (Nat → Int32)) ⊕ ((Nat → Int32) × (Nat → Int32))) := fX9_tellsApart_b118 st p2 p3 deeds sd ent sg_.1 sg_.2.1 sg_.2.2
def fX9_tellsApart_b307 (st : (Nat → Int32)) (x5_14 : Int32) (ia_18 : (Nat → Int32)) (x6_12 : Int32) (nr_20 : (Nat → Int32)) : Option ((Int32 × (Nat → Int32)) ⊕ ((Nat → Int32))) := (if (st 0) ≤ x6_12 then (some (.inr nr_20)) else (ogd (((12 : Int32) * x5_14) + x6_12) 144 (ob1 (if (ia_18 (Int32.toNatClampNeg (((12 : Int32) * x5_14) + x6_12))) = (0 : Int32) then (some x5_14) else (ogd x6_12 12 (some (nr_20 (Int32.toNatClampNeg x6_12))))) (fun z0_20 => (ogd x6_12 12 (some (.inl ((x6_12 + (1 : Int32)), (upd nr_20 (Int32.toNatClampNeg x6_12) z0_20)))))))))
def fX9_tellsApart_s307 (st : (Nat → Int32)) (x5_14 : Int32) (ia_18 : (Nat → Int32)) (sg_ : Int32 × (Nat → Int32)) : Option ((Int32 × (Nat → Int32)) ⊕ ((Nat → Int32))) := fX9_tellsApart_b307 st x5_14 ia_18 sg_.1 sg_.2
def fX9_tellsApart_b299 (st : (Nat → Int32)) (ia_18 : (Nat → Int32)) (x5_14 : Int32) (nr_17 : (Nat → Int32)) : Option ((Int32 × (Nat → Int32)) ⊕ ((Nat → Int32))) := (if x5_14 < (0 : Int32) then (some (.inr nr_17)) else (ob1 (olp (fX9_tellsApart_s307 st x5_14 ia_18) oFu ((0 : Int32), nr_17)) (fun nr_21 => (some (.inl ((x5_14 + (-1 : Int32)), nr_21))))))
def fX9_tellsApart_s299 (st : (Nat → Int32)) (ia_18 : (Nat → Int32)) (sg_ : Int32 × (Nat → Int32)) : Option ((Int32 × (Nat → Int32)) ⊕ ((Nat → Int32))) := fX9_tellsApart_b299 st ia_18 sg_.1 sg_.2
def fX9_tellsApart (p2 : Int32) (p3 : Int32) (deeds : Int32) (sd : Int32) (ent : Int32) (st : (Nat → Int32)) (nr : (Nat → Int32)) (ia : (Nat → Int32)) (inw : (Nat → Int32)) : Option ((Nat → Int32) × (Nat → Int32) × (Nat → Int32) × (Nat → Int32)) := (ob1 (olp (fX9_tellsApart_s3 st p3 p2) oFu ((0 : Int32), ia)) (fun ia_6 => (ob2 (olp (fX9_tellsApart_s118 st p2 p3 deeds sd ent) oFu ((1 : Int32), ia_6, inw)) (fun ia_18 inw_16 => (ob1 (olp (fX9_tellsApart_s299 st ia_18) oFu (((st 0) - (1 : Int32)), nr)) (fun nr_18 => (ob1 (fX9_bring 12 76 (0 : Int32) p2 (st 0) nr_18 st) (fun st_16 => (ob2 (fX9_arranges p2 deeds sd ent st_16 nr_18) (fun st_17 nr_22 => (some (st_17, nr_22, ia_18, inw_16))))))))))))
abbrev wX9_tellsApart (cI cZ cM cS : ClassId) (mo mst mpa mim mik mbi mbk mnr mia min mas mpr mfa mme mse : Nat) (deeds : Int32) (sd : Int32) (ent : Int32) (st : (Nat → Int32)) (nr : (Nat → Int32)) (ia : (Nat → Int32)) (inw : (Nat → Int32)) : va_W := [(mo, .inr (9, [.ref mst, .ref mpa, .int deeds, .ref mim, .ref mik, .int sd, .ref mbi, .ref mbk, .int ent, .ref mnr, .ref mia, .ref min, .ref mas, .ref mpr, .ref mfa, .ref mme, .ref mse])), (mst, .inl (cI, 76, .inl st)), (mnr, .inl (cI, 12, .inl nr)), (mia, .inl (cZ, 144, .inl ia)), (min, .inl (cZ, 144, .inl inw))]
set_option maxHeartbeats 4000000 in
set_option maxRecDepth 100000 in
theorem tX9_tellsApart (l : Launch) (D : va_G) (cI cZ cM cS : ClassId) (mo mst mpa mim mik mbi mbk mnr mia min mas mpr mfa mme mse : Nat) (deeds : Int32) (sd : Int32) (ent : Int32) (st : (Nat → Int32)) (nr : (Nat → Int32)) (ia : (Nat → Int32)) (inw : (Nat → Int32)) (p2 : Int32) (p3 : Int32) {st' : (Nat → Int32)} {nr' : (Nat → Int32)} {ia' : (Nat → Int32)} {inw' : (Nat → Int32)} (hF : fX9_tellsApart p2 p3 deeds sd ent st nr ia inw = some (st', nr', ia', inw')) : zCW l yX9_tellsApart wsX9_tellsApart (zRm 3 71) D (zTy cI cZ cM cS) [.ref mo, .ref mst, .int p2, .int p3] (wX9_tellsApart cI cZ cM cS mo mst mpa mim mik mbi mbk mnr mia min mas mpr mfa mme mse deeds sd ent st nr ia inw) (wX9_tellsApart cI cZ cM cS mo mst mpa mim mik mbi mbk mnr mia min mas mpr mfa mme mse deeds sd ent st' nr' ia' inw') none := by
  unfold fX9_tellsApart at hF
  refine zCW_ofv (cc := cX9_tellsApart) (maxL := 7) (own := RX9) (by decide) rfl rfl (Nat.le_of_ble_eq_true rfl) (fun p e s m args below meth c Q ls A E hA hK hP hD hRet hS hl => ?_)
  refine zgen (fun H locs hP hS => ?_) hP hS
  have hl : lv_has ls 7 [(0, .ref mo), (1, .ref mst), (2, .int p2), (3, .int p3)] := hl
  obtain ⟨hx, hb, hml, hown, hts⟩ := id E
  have inX9 : ∀ w ∈ u_ws RX9 TX9 17, w ∈ wsX9_tellsApart := by decide +kernel
  have fl29 := hts (.fieldLink RX9 29 "SplitClassesModel" "newRow" "[I") (by decide +kernel)
  have fl32 := hts (.fieldLink RX9 32 "SplitClassesModel" "isApart" "[Z") (by decide +kernel)
  have fl35 := hts (.fieldLink RX9 35 "SplitClassesModel" "isNow" "[Z") (by decide +kernel)
  have fl7 := hts (.fieldLink RX9 7 "SplitClassesModel" "st" "[I") (by decide +kernel)
  refine lv_iconst (v := (0 : Int32)) (pc := 0) hx hb dX9_tellsApart_0 (by decide) ?_
  refine lv_istore (lv' := [(4, .int (0 : Int32)), (0, .ref mo), (1, .ref mst), (2, .int p2), (3, .int p3)]) (pc := 1) hx hb dX9_tellsApart_1 hl (by decide) rfl (fun ls hl => ?_)
  obtain ⟨ia_6, hL16, hF⟩ := ob1_e hF
  have ex16 : ∀ (H : Heap) (locs : List Loc) (ls : Array Slot), va_P D vwCl (wX9_tellsApart cI cZ cM cS mo mst mpa mim mik mbi mbk mnr mia min mas mpr mfa mme mse deeds sd ent st nr ia_6 inw) H → va_D A (wX9_tellsApart cI cZ cM cS mo mst mpa mim mik mbi mbk mnr mia min mas mpr mfa mme mse deeds sd ent st nr ia_6 inw) → va_S A s.heap H locs → lv_has ls 7 [(0, .ref mo), (1, .ref mst), (2, .int p2), (3, .int p3)] → W p l e (zRm 3 71) s m args below meth c H locs 0 0 Q (F0 m 115 ls []) := by
    intro H locs ls hP hD hS hl
    refine lv_iconst (v := (1 : Int32)) (pc := 115) hx hb dX9_tellsApart_115 (by decide) ?_
    refine lv_istore (lv' := [(4, .int (1 : Int32)), (0, .ref mo), (1, .ref mst), (2, .int p2), (3, .int p3)]) (pc := 116) hx hb dX9_tellsApart_116 hl (by decide) rfl (fun ls hl => ?_)
    obtain ⟨ia_18, inw_16, hL66, hF⟩ := ob2_e hF
    have ex66 : ∀ (H : Heap) (locs : List Loc) (ls : Array Slot), va_P D vwCl (wX9_tellsApart cI cZ cM cS mo mst mpa mim mik mbi mbk mnr mia min mas mpr mfa mme mse deeds sd ent st nr ia_18 inw_16) H → va_D A (wX9_tellsApart cI cZ cM cS mo mst mpa mim mik mbi mbk mnr mia min mas mpr mfa mme mse deeds sd ent st nr ia_18 inw_16) → va_S A s.heap H locs → lv_has ls 7 [(0, .ref mo), (1, .ref mst), (2, .int p2)] → W p l e (zRm 3 71) s m args below meth c H locs 0 0 Q (F0 m 289 ls []) := by
      intro H locs ls hP hD hS hl
      refine lv_aload_n (pc := 289) hx hb dX9_tellsApart_289 rfl (lv_at hl 0 rfl) ?_
      refine va_get (pc := 290) (ci := 9) (C := RX9) (T := TX9) (N := 17) hx hb hts inX9 hown hK hP 0 rfl rfl 0 (by decide) fl7 (fun _ h9 => h9) rfl dX9_tellsApart_290 ?_
      refine lv_iconst (v := (0 : Int32)) (pc := 293) hx hb dX9_tellsApart_293 (by decide) ?_
      refine z_iald (pc := 294) (k := 0) hx hb hK hP 1 0 rfl rfl (by decide) (by decide) dX9_tellsApart_294 ?_
      refine lv_iconst (v := (1 : Int32)) (pc := 295) hx hb dX9_tellsApart_295 (by decide) ?_
      refine lv_isub (pc := 296) hx hb dX9_tellsApart_296 ?_
      refine lv_istore (lv' := [(5, .int ((st 0) - (1 : Int32))), (0, .ref mo), (1, .ref mst), (2, .int p2)]) (pc := 297) hx hb dX9_tellsApart_297 hl (by decide) rfl (fun ls hl => ?_)
      obtain ⟨nr_18, hL109, hF⟩ := ob1_e hF
      have ex109 : ∀ (H : Heap) (locs : List Loc) (ls : Array Slot), va_P D vwCl (wX9_tellsApart cI cZ cM cS mo mst mpa mim mik mbi mbk mnr mia min mas mpr mfa mme mse deeds sd ent st nr_18 ia_18 inw_16) H → va_D A (wX9_tellsApart cI cZ cM cS mo mst mpa mim mik mbi mbk mnr mia min mas mpr mfa mme mse deeds sd ent st nr_18 ia_18 inw_16) → va_S A s.heap H locs → lv_has ls 7 [(0, .ref mo), (1, .ref mst), (2, .int p2)] → W p l e (zRm 3 71) s m args below meth c H locs 0 0 Q (F0 m 365 ls []) := by
        intro H locs ls hP hD hS hl
        refine lv_aload_n (pc := 365) hx hb dX9_tellsApart_365 rfl (lv_at hl 0 rfl) ?_
        refine va_get (pc := 366) (ci := 9) (C := RX9) (T := TX9) (N := 17) hx hb hts inX9 hown hK hP 0 rfl rfl 9 (by decide) fl29 (fun _ h9 => h9) rfl dX9_tellsApart_366 ?_
        refine lv_iconst (v := (0 : Int32)) (pc := 369) hx hb dX9_tellsApart_369 (by decide) ?_
        refine lv_aload_n (pc := 370) hx hb dX9_tellsApart_370 rfl (lv_at hl 1 rfl) ?_
        refine lv_iload_n (pc := 371) hx hb dX9_tellsApart_371 rfl (lv_at hl 2 rfl) ?_
        refine lv_aload_n (pc := 372) hx hb dX9_tellsApart_372 rfl (lv_at hl 0 rfl) ?_
        refine va_get (pc := 373) (ci := 9) (C := RX9) (T := TX9) (N := 17) hx hb hts inX9 hown hK hP 0 rfl rfl 0 (by decide) fl7 (fun _ h9 => h9) rfl dX9_tellsApart_373 ?_
        refine lv_iconst (v := (0 : Int32)) (pc := 376) hx hb dX9_tellsApart_376 (by decide) ?_
        refine z_iald (pc := 377) (k := 0) hx hb hK hP 1 0 rfl rfl (by decide) (by decide) dX9_tellsApart_377 ?_
        obtain ⟨st_16, hC120, hF⟩ := ob1_e hF
        refine zS (pc := 378) (As := [.ref mnr, .int (0 : Int32), .ref mst, .int p2, .int (st 0)]) (rest := []) (wr := [(mo, .inr (9, [.ref mst, .ref mpa, .int deeds, .ref mim, .ref mik, .int sd, .ref mbi, .ref mbk, .int ent, .ref mnr, .ref mia, .ref min, .ref mas, .ref mpr, .ref mfa, .ref mme, .ref mse])), (mia, .inl (cZ, 144, .inl ia_18)), (min, .inl (cZ, 144, .inl inw_16))]) (w2 := (wX9_tellsApart cI cZ cM cS mo mst mpa mim mik mbi mbk mnr mia min mas mpr mfa mme mse deeds sd ent st_16 nr_18 ia_18 inw_16)) E (tX9_bring l D cI cZ cM cS mnr mst 12 76 nr_18 st (0 : Int32) p2 (st 0) hC120) 5 gX9_tellsApart_X9_bring rfl rfl rfl (by decide +kernel) ⟨Nat.le_of_ble_eq_true rfl, Nat.le_of_ble_eq_true rfl⟩ hK hP hD hS hA [2, 1] [0, 3, 4] [0, 4, 3, 1, 2] (by decide) rfl rfl (by decide) (by decide) rfl (by decide) rfl hl.1 rfl (Nat.le_of_ble_eq_true rfl) dX9_tellsApart_378 ⟨Nat.zero_le _, Nat.zero_le _⟩ (fun H locs hP hD hS => ?_)
        refine W.eq (g2 := F0 m 381 ls []) rfl ?_
        refine lv_aload_n (pc := 381) hx hb dX9_tellsApart_381 rfl (lv_at hl 0 rfl) ?_
        refine lv_aload_n (pc := 382) hx hb dX9_tellsApart_382 rfl (lv_at hl 1 rfl) ?_
        refine lv_iload_n (pc := 383) hx hb dX9_tellsApart_383 rfl (lv_at hl 2 rfl) ?_
        obtain ⟨st_17, nr_22, hC121, hF⟩ := ob2_e hF
        refine zV (pc := 384) (As := [.ref mst, .int p2]) (rest := []) (wr := [(mia, .inl (cZ, 144, .inl ia_18)), (min, .inl (cZ, 144, .inl inw_16))]) (w2 := (wX9_tellsApart cI cZ cM cS mo mst mpa mim mik mbi mbk mnr mia min mas mpr mfa mme mse deeds sd ent st_17 nr_22 ia_18 inw_16)) E (tX9_arranges l D cI cZ cM cS mo mst mpa mim mik mbi mbk mnr mia min mas mpr mfa mme mse deeds sd ent st_16 nr_18 p2 hC121) 2 gX9_tellsApart_X9_arranges rfl rfl rfl (by decide +kernel) ⟨Nat.le_of_ble_eq_true rfl, Nat.le_of_ble_eq_true rfl⟩ hK hP hD hS hA [0, 1, 2] [3, 4] [2, 3, 4, 0, 1] (by decide) rfl rfl (by decide) (by decide) rfl (by decide) 0 9 rfl rfl rfl rfl hl.1 rfl (Nat.le_of_ble_eq_true rfl) dX9_tellsApart_384 ⟨Nat.zero_le _, Nat.zero_le _⟩ (fun H locs hP hD hS => ?_)
        refine W.eq (g2 := F0 m 387 ls []) rfl ?_
        cases hF
        exact hRet _ _ _ _ dX9_tellsApart_387 hP hD hS
      have lp109 : ∀ (n : Nat) (x5_14 : Int32) (nr_17 : (Nat → Int32)) (H : Heap) (locs : List Loc) (ls : Array Slot), olp (fX9_tellsApart_s299 st ia_18) n (x5_14, nr_17) = some nr_18 → va_P D vwCl (wX9_tellsApart cI cZ cM cS mo mst mpa mim mik mbi mbk mnr mia min mas mpr mfa mme mse deeds sd ent st nr_17 ia_18 inw_16) H → va_D A (wX9_tellsApart cI cZ cM cS mo mst mpa mim mik mbi mbk mnr mia min mas mpr mfa mme mse deeds sd ent st nr_17 ia_18 inw_16) → va_S A s.heap H locs → lv_has ls 7 [(5, .int x5_14), (0, .ref mo), (1, .ref mst), (2, .int p2)] → W p l e (zRm 3 71) s m args below meth c H locs 0 0 Q (F0 m 299 ls []) := by
        intro n
        induction n with
        | zero => intro x5_14 nr_17 H locs ls hL; exact olp_0 hL
        | succ n ih =>
          intro x5_14 nr_17 H locs ls hL109 hP hD hS hl
          obtain ⟨z, hz109, hL109⟩ := olp_e hL109
          have hz109 : fX9_tellsApart_b299 st ia_18 x5_14 nr_17 = some z := hz109
          unfold fX9_tellsApart_b299 at hz109
          refine lv_iload (pc := 299) hx hb dX9_tellsApart_299 (lv_at hl 0 rfl) ?_
          refine lv_if_lt (pc := 301) (tgt := 365) hx hb dX9_tellsApart_301 (by decide) (fun hc => ?_) (fun hc => ?_)
          · have hz109 := oif_t hz109 hc
            have hE := olp_r hz109 hL109
            cases hE
            exact ex109 _ _ _ hP hD hS (lv_sub hl [1, 2, 3] rfl)
          · have hz109 := oif_f hz109 hc
            refine lv_iconst (v := (0 : Int32)) (pc := 304) hx hb dX9_tellsApart_304 (by decide) ?_
            refine lv_istore (lv' := [(6, .int (0 : Int32)), (5, .int x5_14), (0, .ref mo), (1, .ref mst), (2, .int p2)]) (pc := 305) hx hb dX9_tellsApart_305 hl (by decide) rfl (fun ls hl => ?_)
            obtain ⟨nr_21, hL114, hz109⟩ := ob1_e hz109
            have ex114 : ∀ (H : Heap) (locs : List Loc) (ls : Array Slot), va_P D vwCl (wX9_tellsApart cI cZ cM cS mo mst mpa mim mik mbi mbk mnr mia min mas mpr mfa mme mse deeds sd ent st nr_21 ia_18 inw_16) H → va_D A (wX9_tellsApart cI cZ cM cS mo mst mpa mim mik mbi mbk mnr mia min mas mpr mfa mme mse deeds sd ent st nr_21 ia_18 inw_16) → va_S A s.heap H locs → lv_has ls 7 [(5, .int x5_14), (0, .ref mo), (1, .ref mst), (2, .int p2)] → W p l e (zRm 3 71) s m args below meth c H locs 0 0 Q (F0 m 359 ls []) := by
              intro H locs ls hP hD hS hl
              refine lv_iinc (v := (x5_14 + (-1 : Int32))) (lv' := [(5, .int (x5_14 + (-1 : Int32))), (0, .ref mo), (1, .ref mst), (2, .int p2)]) (pc := 359) hx hb dX9_tellsApart_359 hl (k := 0) rfl rfl (by decide) rfl (fun ls hl => ?_)
              refine lv_goto (pc := 362) (tgt := 299) hx hb dX9_tellsApart_362 (by decide) ?_
              exact ih _ _ _ _ _ (olp_l hz109 hL109) hP hD hS (lv_sub hl [0, 1, 2, 3] rfl)
            have lp114 : ∀ (n : Nat) (x6_12 : Int32) (nr_20 : (Nat → Int32)) (H : Heap) (locs : List Loc) (ls : Array Slot), olp (fX9_tellsApart_s307 st x5_14 ia_18) n (x6_12, nr_20) = some nr_21 → va_P D vwCl (wX9_tellsApart cI cZ cM cS mo mst mpa mim mik mbi mbk mnr mia min mas mpr mfa mme mse deeds sd ent st nr_20 ia_18 inw_16) H → va_D A (wX9_tellsApart cI cZ cM cS mo mst mpa mim mik mbi mbk mnr mia min mas mpr mfa mme mse deeds sd ent st nr_20 ia_18 inw_16) → va_S A s.heap H locs → lv_has ls 7 [(6, .int x6_12), (5, .int x5_14), (0, .ref mo), (1, .ref mst), (2, .int p2)] → W p l e (zRm 3 71) s m args below meth c H locs 0 0 Q (F0 m 307 ls []) := by
              intro n
              induction n with
              | zero => intro x6_12 nr_20 H locs ls hL; exact olp_0 hL
              | succ n ih =>
                intro x6_12 nr_20 H locs ls hL114 hP hD hS hl
                obtain ⟨z, hz114, hL114⟩ := olp_e hL114
                have hz114 : fX9_tellsApart_b307 st x5_14 ia_18 x6_12 nr_20 = some z := hz114
                unfold fX9_tellsApart_b307 at hz114
                refine lv_iload (pc := 307) hx hb dX9_tellsApart_307 (lv_at hl 0 rfl) ?_
                refine lv_aload_n (pc := 309) hx hb dX9_tellsApart_309 rfl (lv_at hl 2 rfl) ?_
                refine va_get (pc := 310) (ci := 9) (C := RX9) (T := TX9) (N := 17) hx hb hts inX9 hown hK hP 0 rfl rfl 0 (by decide) fl7 (fun _ h9 => h9) rfl dX9_tellsApart_310 ?_
                refine lv_iconst (v := (0 : Int32)) (pc := 313) hx hb dX9_tellsApart_313 (by decide) ?_
                refine z_iald (pc := 314) (k := 0) hx hb hK hP 1 0 rfl rfl (by decide) (by decide) dX9_tellsApart_314 ?_
                refine lv_icmp_ge (pc := 315) (tgt := 359) hx hb dX9_tellsApart_315 (by decide) (fun hc => ?_) (fun hc => ?_)
                · have hz114 := oif_t hz114 hc
                  have hE := olp_r hz114 hL114
                  cases hE
                  exact ex114 _ _ _ hP hD hS (lv_sub hl [1, 2, 3, 4] rfl)
                · have hz114 := oif_f hz114 hc
                  refine lv_aload_n (pc := 318) hx hb dX9_tellsApart_318 rfl (lv_at hl 2 rfl) ?_
                  refine va_get (pc := 319) (ci := 9) (C := RX9) (T := TX9) (N := 17) hx hb hts inX9 hown hK hP 0 rfl rfl 9 (by decide) fl29 (fun _ h9 => h9) rfl dX9_tellsApart_319 ?_
                  refine lv_iload (pc := 322) hx hb dX9_tellsApart_322 (lv_at hl 0 rfl) ?_
                  refine lv_aload_n (pc := 324) hx hb dX9_tellsApart_324 rfl (lv_at hl 2 rfl) ?_
                  refine va_get (pc := 325) (ci := 9) (C := RX9) (T := TX9) (N := 17) hx hb hts inX9 hown hK hP 0 rfl rfl 10 (by decide) fl32 (fun _ h9 => h9) rfl dX9_tellsApart_325 ?_
                  refine lv_bipush (v := (12 : Int32)) (pc := 328) hx hb dX9_tellsApart_328 (by decide) ?_
                  refine lv_iload (pc := 330) hx hb dX9_tellsApart_330 (lv_at hl 1 rfl) ?_
                  refine lv_imul (pc := 332) hx hb dX9_tellsApart_332 ?_
                  refine lv_iload (pc := 333) hx hb dX9_tellsApart_333 (lv_at hl 0 rfl) ?_
                  refine lv_iadd (pc := 335) hx hb dX9_tellsApart_335 ?_
                  obtain ⟨hg115, hz114⟩ := ogd_e hz114
                  refine va_zald (pc := 336) hx hb hK hP 3 1 rfl rfl hg115 dX9_tellsApart_336 ?_
                  obtain ⟨z0_20, hM117, hz114⟩ := ob1_e hz114
                  have jn117 : ∀ (H : Heap) (locs : List Loc) (ls : Array Slot), va_P D vwCl (wX9_tellsApart cI cZ cM cS mo mst mpa mim mik mbi mbk mnr mia min mas mpr mfa mme mse deeds sd ent st nr_20 ia_18 inw_16) H → va_D A (wX9_tellsApart cI cZ cM cS mo mst mpa mim mik mbi mbk mnr mia min mas mpr mfa mme mse deeds sd ent st nr_20 ia_18 inw_16) → va_S A s.heap H locs → lv_has ls 7 [(6, .int x6_12), (5, .int x5_14), (0, .ref mo), (1, .ref mst), (2, .int p2)] → W p l e (zRm 3 71) s m args below meth c H locs 0 0 Q (F0 m 352 ls [.int z0_20, .int x6_12, .ref mnr]) := by
                    intro H locs ls hP hD hS hl
                    obtain ⟨hg118, hz114⟩ := ogd_e hz114
                    refine va_iast (pc := 352) hx hb hK hP hD hS 2 0 rfl rfl hg118 dX9_tellsApart_352 (fun H locs hP hD hS => ?_)
                    have hP : va_P D vwCl (wX9_tellsApart cI cZ cM cS mo mst mpa mim mik mbi mbk mnr mia min mas mpr mfa mme mse deeds sd ent st (upd nr_20 (Int32.toNatClampNeg x6_12) z0_20) ia_18 inw_16) H := hP
                    have hD : va_D A (wX9_tellsApart cI cZ cM cS mo mst mpa mim mik mbi mbk mnr mia min mas mpr mfa mme mse deeds sd ent st (upd nr_20 (Int32.toNatClampNeg x6_12) z0_20) ia_18 inw_16) := hD
                    refine lv_iinc (v := (x6_12 + (1 : Int32))) (lv' := [(6, .int (x6_12 + (1 : Int32))), (5, .int x5_14), (0, .ref mo), (1, .ref mst), (2, .int p2)]) (pc := 353) hx hb dX9_tellsApart_353 hl (k := 0) rfl rfl (by decide) rfl (fun ls hl => ?_)
                    refine lv_goto (pc := 356) (tgt := 307) hx hb dX9_tellsApart_356 (by decide) ?_
                    exact ih _ _ _ _ _ (olp_l hz114 hL114) hP hD hS (lv_sub hl [0, 1, 2, 3, 4] rfl)
                  refine lv_if_eq (pc := 337) (tgt := 350) hx hb dX9_tellsApart_337 (by decide) (fun hc => ?_) (fun hc => ?_)
                  · have hM117 := oif_t hM117 hc
                    refine lv_iload (pc := 350) hx hb dX9_tellsApart_350 (lv_at hl 1 rfl) ?_
                    cases hM117
                    exact jn117 _ _ _ hP hD hS (lv_sub hl [0, 1, 2, 3, 4] rfl)
                  · have hM117 := oif_f hM117 hc
                    refine lv_aload_n (pc := 340) hx hb dX9_tellsApart_340 rfl (lv_at hl 2 rfl) ?_
                    refine va_get (pc := 341) (ci := 9) (C := RX9) (T := TX9) (N := 17) hx hb hts inX9 hown hK hP 0 rfl rfl 9 (by decide) fl29 (fun _ h9 => h9) rfl dX9_tellsApart_341 ?_
                    refine lv_iload (pc := 344) hx hb dX9_tellsApart_344 (lv_at hl 0 rfl) ?_
                    obtain ⟨hg119, hM117⟩ := ogd_e hM117
                    refine va_iald (pc := 346) hx hb hK hP 2 0 rfl rfl hg119 dX9_tellsApart_346 ?_
                    refine lv_goto (pc := 347) (tgt := 352) hx hb dX9_tellsApart_347 (by decide) ?_
                    cases hM117
                    exact jn117 _ _ _ hP hD hS (lv_sub hl [0, 1, 2, 3, 4] rfl)
            exact lp114 oFu _ _ _ _ _ hL114 hP hD hS (lv_sub hl [0, 1, 2, 3, 4] rfl)
      exact lp109 oFu _ _ _ _ _ hL109 hP hD hS (lv_sub hl [0, 1, 2, 3] rfl)
    have lp66 : ∀ (n : Nat) (x4_13 : Int32) (ia_17 : (Nat → Int32)) (inw_15 : (Nat → Int32)) (H : Heap) (locs : List Loc) (ls : Array Slot), olp (fX9_tellsApart_s118 st p2 p3 deeds sd ent) n (x4_13, ia_17, inw_15) = some (ia_18, inw_16) → va_P D vwCl (wX9_tellsApart cI cZ cM cS mo mst mpa mim mik mbi mbk mnr mia min mas mpr mfa mme mse deeds sd ent st nr ia_17 inw_15) H → va_D A (wX9_tellsApart cI cZ cM cS mo mst mpa mim mik mbi mbk mnr mia min mas mpr mfa mme mse deeds sd ent st nr ia_17 inw_15) → va_S A s.heap H locs → lv_has ls 7 [(4, .int x4_13), (0, .ref mo), (1, .ref mst), (2, .int p2), (3, .int p3)] → W p l e (zRm 3 71) s m args below meth c H locs 0 0 Q (F0 m 118 ls []) := by
      intro n
      induction n with
      | zero => intro x4_13 ia_17 inw_15 H locs ls hL; exact olp_0 hL
      | succ n ih =>
        intro x4_13 ia_17 inw_15 H locs ls hL66 hP hD hS hl
        obtain ⟨z, hz66, hL66⟩ := olp_e hL66
        have hz66 : fX9_tellsApart_b118 st p2 p3 deeds sd ent x4_13 ia_17 inw_15 = some z := hz66
        unfold fX9_tellsApart_b118 at hz66
        refine lv_iload (pc := 118) hx hb dX9_tellsApart_118 (lv_at hl 0 rfl) ?_
        refine lv_if_eq (pc := 120) (tgt := 289) hx hb dX9_tellsApart_120 (by decide) (fun hc => ?_) (fun hc => ?_)
        · have hz66 := oif_t hz66 hc
          have hE := olp_r hz66 hL66
          cases hE
          exact ex66 _ _ _ hP hD hS (lv_sub hl [1, 2, 3] rfl)
        · have hz66 := oif_f hz66 hc
          refine lv_iconst (v := (0 : Int32)) (pc := 123) hx hb dX9_tellsApart_123 (by decide) ?_
          refine lv_istore (lv' := [(4, .int (0 : Int32)), (0, .ref mo), (1, .ref mst), (2, .int p2), (3, .int p3)]) (pc := 124) hx hb dX9_tellsApart_124 hl (by decide) rfl (fun ls hl => ?_)
          refine lv_iconst (v := (0 : Int32)) (pc := 126) hx hb dX9_tellsApart_126 (by decide) ?_
          refine lv_istore (lv' := [(5, .int (0 : Int32)), (4, .int (0 : Int32)), (0, .ref mo), (1, .ref mst), (2, .int p2), (3, .int p3)]) (pc := 127) hx hb dX9_tellsApart_127 hl (by decide) rfl (fun ls hl => ?_)
          obtain ⟨x4_19, inw_22, hL80, hz66⟩ := ob2_e hz66
          have ex80 : ∀ (H : Heap) (locs : List Loc) (ls : Array Slot), va_P D vwCl (wX9_tellsApart cI cZ cM cS mo mst mpa mim mik mbi mbk mnr mia min mas mpr mfa mme mse deeds sd ent st nr ia_17 inw_22) H → va_D A (wX9_tellsApart cI cZ cM cS mo mst mpa mim mik mbi mbk mnr mia min mas mpr mfa mme mse deeds sd ent st nr ia_17 inw_22) → va_S A s.heap H locs → lv_has ls 7 [(4, .int x4_19), (0, .ref mo), (1, .ref mst), (2, .int p2), (3, .int p3)] → W p l e (zRm 3 71) s m args below meth c H locs 0 0 Q (F0 m 255 ls []) := by
            intro H locs ls hP hD hS hl
            refine lv_iconst (v := (0 : Int32)) (pc := 255) hx hb dX9_tellsApart_255 (by decide) ?_
            refine lv_istore (lv' := [(5, .int (0 : Int32)), (4, .int x4_19), (0, .ref mo), (1, .ref mst), (2, .int p2), (3, .int p3)]) (pc := 256) hx hb dX9_tellsApart_256 hl (by decide) rfl (fun ls hl => ?_)
            obtain ⟨ia_24, hL97, hz66⟩ := ob1_e hz66
            have ex97 : ∀ (H : Heap) (locs : List Loc) (ls : Array Slot), va_P D vwCl (wX9_tellsApart cI cZ cM cS mo mst mpa mim mik mbi mbk mnr mia min mas mpr mfa mme mse deeds sd ent st nr ia_24 inw_22) H → va_D A (wX9_tellsApart cI cZ cM cS mo mst mpa mim mik mbi mbk mnr mia min mas mpr mfa mme mse deeds sd ent st nr ia_24 inw_22) → va_S A s.heap H locs → lv_has ls 7 [(4, .int x4_19), (0, .ref mo), (1, .ref mst), (2, .int p2), (3, .int p3)] → W p l e (zRm 3 71) s m args below meth c H locs 0 0 Q (F0 m 286 ls []) := by
              intro H locs ls hP hD hS hl
              refine lv_goto (pc := 286) (tgt := 118) hx hb dX9_tellsApart_286 (by decide) ?_
              exact ih _ _ _ _ _ _ (olp_l hz66 hL66) hP hD hS (lv_sub hl [0, 1, 2, 3, 4] rfl)
            have lp97 : ∀ (n : Nat) (x5_12 : Int32) (ia_23 : (Nat → Int32)) (H : Heap) (locs : List Loc) (ls : Array Slot), olp (fX9_tellsApart_s258 inw_22) n (x5_12, ia_23) = some ia_24 → va_P D vwCl (wX9_tellsApart cI cZ cM cS mo mst mpa mim mik mbi mbk mnr mia min mas mpr mfa mme mse deeds sd ent st nr ia_23 inw_22) H → va_D A (wX9_tellsApart cI cZ cM cS mo mst mpa mim mik mbi mbk mnr mia min mas mpr mfa mme mse deeds sd ent st nr ia_23 inw_22) → va_S A s.heap H locs → lv_has ls 7 [(5, .int x5_12), (4, .int x4_19), (0, .ref mo), (1, .ref mst), (2, .int p2), (3, .int p3)] → W p l e (zRm 3 71) s m args below meth c H locs 0 0 Q (F0 m 258 ls []) := by
              intro n
              induction n with
              | zero => intro x5_12 ia_23 H locs ls hL; exact olp_0 hL
              | succ n ih =>
                intro x5_12 ia_23 H locs ls hL97 hP hD hS hl
                obtain ⟨z, hz97, hL97⟩ := olp_e hL97
                have hz97 : fX9_tellsApart_b258 inw_22 x5_12 ia_23 = some z := hz97
                unfold fX9_tellsApart_b258 at hz97
                refine lv_iload (pc := 258) hx hb dX9_tellsApart_258 (lv_at hl 0 rfl) ?_
                refine lv_sipush (v := (144 : Int32)) (pc := 260) hx hb dX9_tellsApart_260 (by decide) ?_
                refine lv_icmp_ge (pc := 263) (tgt := 286) hx hb dX9_tellsApart_263 (by decide) (fun hc => ?_) (fun hc => ?_)
                · have hz97 := oif_t hz97 hc
                  have hE := olp_r hz97 hL97
                  cases hE
                  exact ex97 _ _ _ hP hD hS (lv_sub hl [1, 2, 3, 4, 5] rfl)
                · have hz97 := oif_f hz97 hc
                  refine lv_aload_n (pc := 266) hx hb dX9_tellsApart_266 rfl (lv_at hl 2 rfl) ?_
                  refine va_get (pc := 267) (ci := 9) (C := RX9) (T := TX9) (N := 17) hx hb hts inX9 hown hK hP 0 rfl rfl 10 (by decide) fl32 (fun _ h9 => h9) rfl dX9_tellsApart_267 ?_
                  refine lv_iload (pc := 270) hx hb dX9_tellsApart_270 (lv_at hl 0 rfl) ?_
                  refine lv_aload_n (pc := 272) hx hb dX9_tellsApart_272 rfl (lv_at hl 2 rfl) ?_
                  refine va_get (pc := 273) (ci := 9) (C := RX9) (T := TX9) (N := 17) hx hb hts inX9 hown hK hP 0 rfl rfl 11 (by decide) fl35 (fun _ h9 => h9) rfl dX9_tellsApart_273 ?_
                  refine lv_iload (pc := 276) hx hb dX9_tellsApart_276 (lv_at hl 0 rfl) ?_
                  obtain ⟨hg98, hz97⟩ := ogd_e hz97
                  refine va_zald (pc := 278) hx hb hK hP 4 1 rfl rfl hg98 dX9_tellsApart_278 ?_
                  obtain ⟨hg99, hz97⟩ := ogd_e hz97
                  refine va_zast (pc := 279) hx hb hK hP hD hS 3 1 rfl rfl hg99 dX9_tellsApart_279 (fun H locs hP hD hS => ?_)
                  have hP : va_P D vwCl (wX9_tellsApart cI cZ cM cS mo mst mpa mim mik mbi mbk mnr mia min mas mpr mfa mme mse deeds sd ent st nr (upd ia_23 (Int32.toNatClampNeg x5_12) (vp_nar .boolean (inw_22 (Int32.toNatClampNeg x5_12)))) inw_22) H := hP
                  have hD : va_D A (wX9_tellsApart cI cZ cM cS mo mst mpa mim mik mbi mbk mnr mia min mas mpr mfa mme mse deeds sd ent st nr (upd ia_23 (Int32.toNatClampNeg x5_12) (vp_nar .boolean (inw_22 (Int32.toNatClampNeg x5_12)))) inw_22) := hD
                  refine lv_iinc (v := (x5_12 + (1 : Int32))) (lv' := [(5, .int (x5_12 + (1 : Int32))), (4, .int x4_19), (0, .ref mo), (1, .ref mst), (2, .int p2), (3, .int p3)]) (pc := 280) hx hb dX9_tellsApart_280 hl (k := 0) rfl rfl (by decide) rfl (fun ls hl => ?_)
                  refine lv_goto (pc := 283) (tgt := 258) hx hb dX9_tellsApart_283 (by decide) ?_
                  exact ih _ _ _ _ _ (olp_l hz97 hL97) hP hD hS (lv_sub hl [0, 1, 2, 3, 4, 5] rfl)
            exact lp97 oFu _ _ _ _ _ hL97 hP hD hS (lv_sub hl [0, 1, 2, 3, 4, 5] rfl)
          have lp80 : ∀ (n : Nat) (x5_10 : Int32) (x4_18 : Int32) (inw_21 : (Nat → Int32)) (H : Heap) (locs : List Loc) (ls : Array Slot), olp (fX9_tellsApart_s129 st ia_17 p2 p3 deeds sd ent) n (x5_10, x4_18, inw_21) = some (x4_19, inw_22) → va_P D vwCl (wX9_tellsApart cI cZ cM cS mo mst mpa mim mik mbi mbk mnr mia min mas mpr mfa mme mse deeds sd ent st nr ia_17 inw_21) H → va_D A (wX9_tellsApart cI cZ cM cS mo mst mpa mim mik mbi mbk mnr mia min mas mpr mfa mme mse deeds sd ent st nr ia_17 inw_21) → va_S A s.heap H locs → lv_has ls 7 [(5, .int x5_10), (4, .int x4_18), (0, .ref mo), (1, .ref mst), (2, .int p2), (3, .int p3)] → W p l e (zRm 3 71) s m args below meth c H locs 0 0 Q (F0 m 129 ls []) := by
            intro n
            induction n with
            | zero => intro x5_10 x4_18 inw_21 H locs ls hL; exact olp_0 hL
            | succ n ih =>
              intro x5_10 x4_18 inw_21 H locs ls hL80 hP hD hS hl
              obtain ⟨z, hz80, hL80⟩ := olp_e hL80
              have hz80 : fX9_tellsApart_b129 st ia_17 p2 p3 deeds sd ent x5_10 x4_18 inw_21 = some z := hz80
              unfold fX9_tellsApart_b129 at hz80
              refine lv_iload (pc := 129) hx hb dX9_tellsApart_129 (lv_at hl 0 rfl) ?_
              refine lv_aload_n (pc := 131) hx hb dX9_tellsApart_131 rfl (lv_at hl 2 rfl) ?_
              refine va_get (pc := 132) (ci := 9) (C := RX9) (T := TX9) (N := 17) hx hb hts inX9 hown hK hP 0 rfl rfl 0 (by decide) fl7 (fun _ h9 => h9) rfl dX9_tellsApart_132 ?_
              refine lv_iconst (v := (0 : Int32)) (pc := 135) hx hb dX9_tellsApart_135 (by decide) ?_
              refine z_iald (pc := 136) (k := 0) hx hb hK hP 1 0 rfl rfl (by decide) (by decide) dX9_tellsApart_136 ?_
              refine lv_icmp_ge (pc := 137) (tgt := 255) hx hb dX9_tellsApart_137 (by decide) (fun hc => ?_) (fun hc => ?_)
              · have hz80 := oif_t hz80 hc
                have hE := olp_r hz80 hL80
                cases hE
                exact ex80 _ _ _ hP hD hS (lv_sub hl [1, 2, 3, 4, 5] rfl)
              · have hz80 := oif_f hz80 hc
                refine lv_iconst (v := (0 : Int32)) (pc := 140) hx hb dX9_tellsApart_140 (by decide) ?_
                refine lv_istore (lv' := [(6, .int (0 : Int32)), (5, .int x5_10), (4, .int x4_18), (0, .ref mo), (1, .ref mst), (2, .int p2), (3, .int p3)]) (pc := 141) hx hb dX9_tellsApart_141 hl (by decide) rfl (fun ls hl => ?_)
                obtain ⟨x4_22, inw_25, hL87, hz80⟩ := ob2_e hz80
                have ex87 : ∀ (H : Heap) (locs : List Loc) (ls : Array Slot), va_P D vwCl (wX9_tellsApart cI cZ cM cS mo mst mpa mim mik mbi mbk mnr mia min mas mpr mfa mme mse deeds sd ent st nr ia_17 inw_25) H → va_D A (wX9_tellsApart cI cZ cM cS mo mst mpa mim mik mbi mbk mnr mia min mas mpr mfa mme mse deeds sd ent st nr ia_17 inw_25) → va_S A s.heap H locs → lv_has ls 7 [(5, .int x5_10), (4, .int x4_22), (0, .ref mo), (1, .ref mst), (2, .int p2), (3, .int p3)] → W p l e (zRm 3 71) s m args below meth c H locs 0 0 Q (F0 m 249 ls []) := by
                  intro H locs ls hP hD hS hl
                  refine lv_iinc (v := (x5_10 + (1 : Int32))) (lv' := [(5, .int (x5_10 + (1 : Int32))), (4, .int x4_22), (0, .ref mo), (1, .ref mst), (2, .int p2), (3, .int p3)]) (pc := 249) hx hb dX9_tellsApart_249 hl (k := 0) rfl rfl (by decide) rfl (fun ls hl => ?_)
                  refine lv_goto (pc := 252) (tgt := 129) hx hb dX9_tellsApart_252 (by decide) ?_
                  exact ih _ _ _ _ _ _ (olp_l hz80 hL80) hP hD hS (lv_sub hl [0, 1, 2, 3, 4, 5] rfl)
                have lp87 : ∀ (n : Nat) (x6_8 : Int32) (x4_21 : Int32) (inw_24 : (Nat → Int32)) (H : Heap) (locs : List Loc) (ls : Array Slot), olp (fX9_tellsApart_s143 st x5_10 ia_17 p2 p3 deeds sd ent) n (x6_8, x4_21, inw_24) = some (x4_22, inw_25) → va_P D vwCl (wX9_tellsApart cI cZ cM cS mo mst mpa mim mik mbi mbk mnr mia min mas mpr mfa mme mse deeds sd ent st nr ia_17 inw_24) H → va_D A (wX9_tellsApart cI cZ cM cS mo mst mpa mim mik mbi mbk mnr mia min mas mpr mfa mme mse deeds sd ent st nr ia_17 inw_24) → va_S A s.heap H locs → lv_has ls 7 [(6, .int x6_8), (5, .int x5_10), (4, .int x4_21), (0, .ref mo), (1, .ref mst), (2, .int p2), (3, .int p3)] → W p l e (zRm 3 71) s m args below meth c H locs 0 0 Q (F0 m 143 ls []) := by
                  intro n
                  induction n with
                  | zero => intro x6_8 x4_21 inw_24 H locs ls hL; exact olp_0 hL
                  | succ n ih =>
                    intro x6_8 x4_21 inw_24 H locs ls hL87 hP hD hS hl
                    obtain ⟨z, hz87, hL87⟩ := olp_e hL87
                    have hz87 : fX9_tellsApart_b143 st x5_10 ia_17 p2 p3 deeds sd ent x6_8 x4_21 inw_24 = some z := hz87
                    unfold fX9_tellsApart_b143 at hz87
                    refine lv_iload (pc := 143) hx hb dX9_tellsApart_143 (lv_at hl 0 rfl) ?_
                    refine lv_aload_n (pc := 145) hx hb dX9_tellsApart_145 rfl (lv_at hl 3 rfl) ?_
                    refine va_get (pc := 146) (ci := 9) (C := RX9) (T := TX9) (N := 17) hx hb hts inX9 hown hK hP 0 rfl rfl 0 (by decide) fl7 (fun _ h9 => h9) rfl dX9_tellsApart_146 ?_
                    refine lv_iconst (v := (0 : Int32)) (pc := 149) hx hb dX9_tellsApart_149 (by decide) ?_
                    refine z_iald (pc := 150) (k := 0) hx hb hK hP 1 0 rfl rfl (by decide) (by decide) dX9_tellsApart_150 ?_
                    refine lv_icmp_ge (pc := 151) (tgt := 249) hx hb dX9_tellsApart_151 (by decide) (fun hc => ?_) (fun hc => ?_)
                    · have hz87 := oif_t hz87 hc
                      have hE := olp_r hz87 hL87
                      cases hE
                      exact ex87 _ _ _ hP hD hS (lv_sub hl [1, 2, 3, 4, 5, 6] rfl)
                    · have hz87 := oif_f hz87 hc
                      refine lv_aload_n (pc := 154) hx hb dX9_tellsApart_154 rfl (lv_at hl 3 rfl) ?_
                      refine va_get (pc := 155) (ci := 9) (C := RX9) (T := TX9) (N := 17) hx hb hts inX9 hown hK hP 0 rfl rfl 11 (by decide) fl35 (fun _ h9 => h9) rfl dX9_tellsApart_155 ?_
                      refine lv_bipush (v := (12 : Int32)) (pc := 158) hx hb dX9_tellsApart_158 (by decide) ?_
                      refine lv_iload (pc := 160) hx hb dX9_tellsApart_160 (lv_at hl 1 rfl) ?_
                      refine lv_imul (pc := 162) hx hb dX9_tellsApart_162 ?_
                      refine lv_iload (pc := 163) hx hb dX9_tellsApart_163 (lv_at hl 0 rfl) ?_
                      refine lv_iadd (pc := 165) hx hb dX9_tellsApart_165 ?_
                      refine lv_aload_n (pc := 166) hx hb dX9_tellsApart_166 rfl (lv_at hl 3 rfl) ?_
                      refine va_get (pc := 167) (ci := 9) (C := RX9) (T := TX9) (N := 17) hx hb hts inX9 hown hK hP 0 rfl rfl 10 (by decide) fl32 (fun _ h9 => h9) rfl dX9_tellsApart_167 ?_
                      refine lv_bipush (v := (12 : Int32)) (pc := 170) hx hb dX9_tellsApart_170 (by decide) ?_
                      refine lv_iload (pc := 172) hx hb dX9_tellsApart_172 (lv_at hl 1 rfl) ?_
                      refine lv_imul (pc := 174) hx hb dX9_tellsApart_174 ?_
                      refine lv_iload (pc := 175) hx hb dX9_tellsApart_175 (lv_at hl 0 rfl) ?_
                      refine lv_iadd (pc := 177) hx hb dX9_tellsApart_177 ?_
                      obtain ⟨hg88, hz87⟩ := ogd_e hz87
                      refine va_zald (pc := 178) hx hb hK hP 3 1 rfl rfl hg88 dX9_tellsApart_178 ?_
                      obtain ⟨z0_16, hM90, hz87⟩ := ob1_e hz87
                      have jn90 : ∀ (H : Heap) (locs : List Loc) (ls : Array Slot), va_P D vwCl (wX9_tellsApart cI cZ cM cS mo mst mpa mim mik mbi mbk mnr mia min mas mpr mfa mme mse deeds sd ent st nr ia_17 inw_24) H → va_D A (wX9_tellsApart cI cZ cM cS mo mst mpa mim mik mbi mbk mnr mia min mas mpr mfa mme mse deeds sd ent st nr ia_17 inw_24) → va_S A s.heap H locs → lv_has ls 7 [(6, .int x6_8), (5, .int x5_10), (4, .int x4_21), (0, .ref mo), (1, .ref mst), (2, .int p2), (3, .int p3)] → W p l e (zRm 3 71) s m args below meth c H locs 0 0 Q (F0 m 201 ls [.int z0_16, .int (((12 : Int32) * x5_10) + x6_8), .ref min]) := by
                        intro H locs ls hP hD hS hl
                        obtain ⟨hg91, hz87⟩ := ogd_e hz87
                        refine va_zast (pc := 201) hx hb hK hP hD hS 4 1 rfl rfl hg91 dX9_tellsApart_201 (fun H locs hP hD hS => ?_)
                        have hP : va_P D vwCl (wX9_tellsApart cI cZ cM cS mo mst mpa mim mik mbi mbk mnr mia min mas mpr mfa mme mse deeds sd ent st nr ia_17 (upd inw_24 (Int32.toNatClampNeg (((12 : Int32) * x5_10) + x6_8)) (vp_nar .boolean z0_16))) H := hP
                        have hD : va_D A (wX9_tellsApart cI cZ cM cS mo mst mpa mim mik mbi mbk mnr mia min mas mpr mfa mme mse deeds sd ent st nr ia_17 (upd inw_24 (Int32.toNatClampNeg (((12 : Int32) * x5_10) + x6_8)) (vp_nar .boolean z0_16))) := hD
                        refine lv_iload (pc := 202) hx hb dX9_tellsApart_202 (lv_at hl 2 rfl) ?_
                        refine lv_if_ne (pc := 204) (tgt := 236) hx hb dX9_tellsApart_204 (by decide) (fun hc => ?_) (fun hc => ?_)
                        · have hz87 := oif_f hz87 hc
                          refine lv_iconst (v := (1 : Int32)) (pc := 236) hx hb dX9_tellsApart_236 (by decide) ?_
                          refine lv_goto (pc := 237) (tgt := 241) hx hb dX9_tellsApart_237 (by decide) ?_
                          refine lv_istore (lv' := [(4, .int (1 : Int32)), (6, .int x6_8), (5, .int x5_10), (0, .ref mo), (1, .ref mst), (2, .int p2), (3, .int p3)]) (pc := 241) hx hb dX9_tellsApart_241 hl (by decide) rfl (fun ls hl => ?_)
                          refine lv_iinc (v := (x6_8 + (1 : Int32))) (lv' := [(6, .int (x6_8 + (1 : Int32))), (4, .int (1 : Int32)), (5, .int x5_10), (0, .ref mo), (1, .ref mst), (2, .int p2), (3, .int p3)]) (pc := 243) hx hb dX9_tellsApart_243 hl (k := 1) rfl rfl (by decide) rfl (fun ls hl => ?_)
                          refine lv_goto (pc := 246) (tgt := 143) hx hb dX9_tellsApart_246 (by decide) ?_
                          exact ih _ _ _ _ _ _ (olp_l hz87 hL87) hP hD hS (lv_sub hl [0, 2, 1, 3, 4, 5, 6] rfl)
                        · have hz87 := oif_t hz87 hc
                          refine lv_aload_n (pc := 207) hx hb dX9_tellsApart_207 rfl (lv_at hl 3 rfl) ?_
                          refine va_get (pc := 208) (ci := 9) (C := RX9) (T := TX9) (N := 17) hx hb hts inX9 hown hK hP 0 rfl rfl 11 (by decide) fl35 (fun _ h9 => h9) rfl dX9_tellsApart_208 ?_
                          refine lv_bipush (v := (12 : Int32)) (pc := 211) hx hb dX9_tellsApart_211 (by decide) ?_
                          refine lv_iload (pc := 213) hx hb dX9_tellsApart_213 (lv_at hl 1 rfl) ?_
                          refine lv_imul (pc := 215) hx hb dX9_tellsApart_215 ?_
                          refine lv_iload (pc := 216) hx hb dX9_tellsApart_216 (lv_at hl 0 rfl) ?_
                          refine lv_iadd (pc := 218) hx hb dX9_tellsApart_218 ?_
                          obtain ⟨hg92, hz87⟩ := ogd_e hz87
                          refine va_zald (pc := 219) hx hb hK hP 4 1 rfl rfl hg92 dX9_tellsApart_219 ?_
                          refine lv_aload_n (pc := 220) hx hb dX9_tellsApart_220 rfl (lv_at hl 3 rfl) ?_
                          refine va_get (pc := 221) (ci := 9) (C := RX9) (T := TX9) (N := 17) hx hb hts inX9 hown hK hP 0 rfl rfl 10 (by decide) fl32 (fun _ h9 => h9) rfl dX9_tellsApart_221 ?_
                          refine lv_bipush (v := (12 : Int32)) (pc := 224) hx hb dX9_tellsApart_224 (by decide) ?_
                          refine lv_iload (pc := 226) hx hb dX9_tellsApart_226 (lv_at hl 1 rfl) ?_
                          refine lv_imul (pc := 228) hx hb dX9_tellsApart_228 ?_
                          refine lv_iload (pc := 229) hx hb dX9_tellsApart_229 (lv_at hl 0 rfl) ?_
                          refine lv_iadd (pc := 231) hx hb dX9_tellsApart_231 ?_
                          obtain ⟨hg93, hz87⟩ := ogd_e hz87
                          refine va_zald (pc := 232) hx hb hK hP 3 1 rfl rfl hg93 dX9_tellsApart_232 ?_
                          refine lv_icmp_eq (pc := 233) (tgt := 240) hx hb dX9_tellsApart_233 (by decide) (fun hc => ?_) (fun hc => ?_)
                          · have hz87 := oif_t hz87 hc
                            refine lv_iconst (v := (0 : Int32)) (pc := 240) hx hb dX9_tellsApart_240 (by decide) ?_
                            refine lv_istore (lv' := [(4, .int (0 : Int32)), (6, .int x6_8), (5, .int x5_10), (0, .ref mo), (1, .ref mst), (2, .int p2), (3, .int p3)]) (pc := 241) hx hb dX9_tellsApart_241 hl (by decide) rfl (fun ls hl => ?_)
                            refine lv_iinc (v := (x6_8 + (1 : Int32))) (lv' := [(6, .int (x6_8 + (1 : Int32))), (4, .int (0 : Int32)), (5, .int x5_10), (0, .ref mo), (1, .ref mst), (2, .int p2), (3, .int p3)]) (pc := 243) hx hb dX9_tellsApart_243 hl (k := 1) rfl rfl (by decide) rfl (fun ls hl => ?_)
                            refine lv_goto (pc := 246) (tgt := 143) hx hb dX9_tellsApart_246 (by decide) ?_
                            exact ih _ _ _ _ _ _ (olp_l hz87 hL87) hP hD hS (lv_sub hl [0, 2, 1, 3, 4, 5, 6] rfl)
                          · have hz87 := oif_f hz87 hc
                            refine lv_iconst (v := (1 : Int32)) (pc := 236) hx hb dX9_tellsApart_236 (by decide) ?_
                            refine lv_goto (pc := 237) (tgt := 241) hx hb dX9_tellsApart_237 (by decide) ?_
                            refine lv_istore (lv' := [(4, .int (1 : Int32)), (6, .int x6_8), (5, .int x5_10), (0, .ref mo), (1, .ref mst), (2, .int p2), (3, .int p3)]) (pc := 241) hx hb dX9_tellsApart_241 hl (by decide) rfl (fun ls hl => ?_)
                            refine lv_iinc (v := (x6_8 + (1 : Int32))) (lv' := [(6, .int (x6_8 + (1 : Int32))), (4, .int (1 : Int32)), (5, .int x5_10), (0, .ref mo), (1, .ref mst), (2, .int p2), (3, .int p3)]) (pc := 243) hx hb dX9_tellsApart_243 hl (k := 1) rfl rfl (by decide) rfl (fun ls hl => ?_)
                            refine lv_goto (pc := 246) (tgt := 143) hx hb dX9_tellsApart_246 (by decide) ?_
                            exact ih _ _ _ _ _ _ (olp_l hz87 hL87) hP hD hS (lv_sub hl [0, 2, 1, 3, 4, 5, 6] rfl)
                      refine lv_if_ne (pc := 179) (tgt := 196) hx hb dX9_tellsApart_179 (by decide) (fun hc => ?_) (fun hc => ?_)
                      · have hM90 := oif_f hM90 hc
                        refine lv_iconst (v := (1 : Int32)) (pc := 196) hx hb dX9_tellsApart_196 (by decide) ?_
                        refine lv_goto (pc := 197) (tgt := 201) hx hb dX9_tellsApart_197 (by decide) ?_
                        cases hM90
                        exact jn90 _ _ _ hP hD hS (lv_sub hl [0, 1, 2, 3, 4, 5, 6] rfl)
                      · have hM90 := oif_t hM90 hc
                        refine lv_aload_n (pc := 182) hx hb dX9_tellsApart_182 rfl (lv_at hl 3 rfl) ?_
                        refine lv_aload_n (pc := 183) hx hb dX9_tellsApart_183 rfl (lv_at hl 4 rfl) ?_
                        refine lv_iload_n (pc := 184) hx hb dX9_tellsApart_184 rfl (lv_at hl 5 rfl) ?_
                        refine lv_iload_n (pc := 185) hx hb dX9_tellsApart_185 rfl (lv_at hl 6 rfl) ?_
                        refine lv_iload (pc := 186) hx hb dX9_tellsApart_186 (lv_at hl 1 rfl) ?_
                        refine lv_iload (pc := 188) hx hb dX9_tellsApart_188 (lv_at hl 0 rfl) ?_
                        obtain ⟨r_19, hC94, hM90⟩ := ob1_e hM90
                        refine zVr (pc := 190) (As := [.ref mst, .int p2, .int p3, .int x5_10, .int x6_8]) (rest := [.int (((12 : Int32) * x5_10) + x6_8), .ref min]) E (tX9_isOneMore l D cI cZ cM cS mo mst mpa mim mik mbi mbk mnr mia min mas mpr mfa mme mse mst deeds sd ent st ia_17 p2 p3 x5_10 x6_8 hC94) 5 gX9_tellsApart_X9_isOneMore rfl rfl rfl (by decide +kernel) ⟨Nat.le_of_ble_eq_true rfl, Nat.le_of_ble_eq_true rfl⟩ hK hP [0, 1, 3] rfl 0 9 rfl rfl rfl rfl hl.1 rfl (Nat.le_of_ble_eq_true rfl) dX9_tellsApart_190 ⟨Nat.zero_le _, Nat.zero_le _⟩ ?_
                        refine lv_if_eq (pc := 193) (tgt := 200) hx hb dX9_tellsApart_193 (by decide) (fun hc => ?_) (fun hc => ?_)
                        · have hM90 := oif_t hM90 hc
                          refine lv_iconst (v := (0 : Int32)) (pc := 200) hx hb dX9_tellsApart_200 (by decide) ?_
                          cases hM90
                          exact jn90 _ _ _ hP hD hS (lv_sub hl [0, 1, 2, 3, 4, 5, 6] rfl)
                        · have hM90 := oif_f hM90 hc
                          refine lv_iconst (v := (1 : Int32)) (pc := 196) hx hb dX9_tellsApart_196 (by decide) ?_
                          refine lv_goto (pc := 197) (tgt := 201) hx hb dX9_tellsApart_197 (by decide) ?_
                          cases hM90
                          exact jn90 _ _ _ hP hD hS (lv_sub hl [0, 1, 2, 3, 4, 5, 6] rfl)
                exact lp87 oFu _ _ _ _ _ _ hL87 hP hD hS (lv_sub hl [0, 1, 2, 3, 4, 5, 6] rfl)
          exact lp80 oFu _ _ _ _ _ _ hL80 hP hD hS (lv_sub hl [0, 1, 2, 3, 4, 5] rfl)
    exact lp66 oFu _ _ _ _ _ _ hL66 hP hD hS (lv_sub hl [0, 1, 2, 3, 4] rfl)
  have lp16 : ∀ (n : Nat) (x4_2 : Int32) (ia_5 : (Nat → Int32)) (H : Heap) (locs : List Loc) (ls : Array Slot), olp (fX9_tellsApart_s3 st p3 p2) n (x4_2, ia_5) = some ia_6 → va_P D vwCl (wX9_tellsApart cI cZ cM cS mo mst mpa mim mik mbi mbk mnr mia min mas mpr mfa mme mse deeds sd ent st nr ia_5 inw) H → va_D A (wX9_tellsApart cI cZ cM cS mo mst mpa mim mik mbi mbk mnr mia min mas mpr mfa mme mse deeds sd ent st nr ia_5 inw) → va_S A s.heap H locs → lv_has ls 7 [(4, .int x4_2), (0, .ref mo), (1, .ref mst), (2, .int p2), (3, .int p3)] → W p l e (zRm 3 71) s m args below meth c H locs 0 0 Q (F0 m 3 ls []) := by
    intro n
    induction n with
    | zero => intro x4_2 ia_5 H locs ls hL; exact olp_0 hL
    | succ n ih =>
      intro x4_2 ia_5 H locs ls hL16 hP hD hS hl
      obtain ⟨z, hz16, hL16⟩ := olp_e hL16
      have hz16 : fX9_tellsApart_b3 st p3 p2 x4_2 ia_5 = some z := hz16
      unfold fX9_tellsApart_b3 at hz16
      refine lv_iload (pc := 3) hx hb dX9_tellsApart_3 (lv_at hl 0 rfl) ?_
      refine lv_aload_n (pc := 5) hx hb dX9_tellsApart_5 rfl (lv_at hl 1 rfl) ?_
      refine va_get (pc := 6) (ci := 9) (C := RX9) (T := TX9) (N := 17) hx hb hts inX9 hown hK hP 0 rfl rfl 0 (by decide) fl7 (fun _ h9 => h9) rfl dX9_tellsApart_6 ?_
      refine lv_iconst (v := (0 : Int32)) (pc := 9) hx hb dX9_tellsApart_9 (by decide) ?_
      refine z_iald (pc := 10) (k := 0) hx hb hK hP 1 0 rfl rfl (by decide) (by decide) dX9_tellsApart_10 ?_
      refine lv_icmp_ge (pc := 11) (tgt := 115) hx hb dX9_tellsApart_11 (by decide) (fun hc => ?_) (fun hc => ?_)
      · have hz16 := oif_t hz16 hc
        have hE := olp_r hz16 hL16
        cases hE
        exact ex16 _ _ _ hP hD hS (lv_sub hl [1, 2, 3, 4] rfl)
      · have hz16 := oif_f hz16 hc
        refine lv_iconst (v := (0 : Int32)) (pc := 14) hx hb dX9_tellsApart_14 (by decide) ?_
        refine lv_istore (lv' := [(5, .int (0 : Int32)), (4, .int x4_2), (0, .ref mo), (1, .ref mst), (2, .int p2), (3, .int p3)]) (pc := 15) hx hb dX9_tellsApart_15 hl (by decide) rfl (fun ls hl => ?_)
        obtain ⟨ia_9, hL24, hz16⟩ := ob1_e hz16
        have ex24 : ∀ (H : Heap) (locs : List Loc) (ls : Array Slot), va_P D vwCl (wX9_tellsApart cI cZ cM cS mo mst mpa mim mik mbi mbk mnr mia min mas mpr mfa mme mse deeds sd ent st nr ia_9 inw) H → va_D A (wX9_tellsApart cI cZ cM cS mo mst mpa mim mik mbi mbk mnr mia min mas mpr mfa mme mse deeds sd ent st nr ia_9 inw) → va_S A s.heap H locs → lv_has ls 7 [(4, .int x4_2), (0, .ref mo), (1, .ref mst), (2, .int p2), (3, .int p3)] → W p l e (zRm 3 71) s m args below meth c H locs 0 0 Q (F0 m 109 ls []) := by
          intro H locs ls hP hD hS hl
          refine lv_iinc (v := (x4_2 + (1 : Int32))) (lv' := [(4, .int (x4_2 + (1 : Int32))), (0, .ref mo), (1, .ref mst), (2, .int p2), (3, .int p3)]) (pc := 109) hx hb dX9_tellsApart_109 hl (k := 0) rfl rfl (by decide) rfl (fun ls hl => ?_)
          refine lv_goto (pc := 112) (tgt := 3) hx hb dX9_tellsApart_112 (by decide) ?_
          exact ih _ _ _ _ _ (olp_l hz16 hL16) hP hD hS (lv_sub hl [0, 1, 2, 3, 4] rfl)
        have lp24 : ∀ (n : Nat) (x5_4 : Int32) (ia_8 : (Nat → Int32)) (H : Heap) (locs : List Loc) (ls : Array Slot), olp (fX9_tellsApart_s17 st p3 x4_2 p2) n (x5_4, ia_8) = some ia_9 → va_P D vwCl (wX9_tellsApart cI cZ cM cS mo mst mpa mim mik mbi mbk mnr mia min mas mpr mfa mme mse deeds sd ent st nr ia_8 inw) H → va_D A (wX9_tellsApart cI cZ cM cS mo mst mpa mim mik mbi mbk mnr mia min mas mpr mfa mme mse deeds sd ent st nr ia_8 inw) → va_S A s.heap H locs → lv_has ls 7 [(5, .int x5_4), (4, .int x4_2), (0, .ref mo), (1, .ref mst), (2, .int p2), (3, .int p3)] → W p l e (zRm 3 71) s m args below meth c H locs 0 0 Q (F0 m 17 ls []) := by
          intro n
          induction n with
          | zero => intro x5_4 ia_8 H locs ls hL; exact olp_0 hL
          | succ n ih =>
            intro x5_4 ia_8 H locs ls hL24 hP hD hS hl
            obtain ⟨z, hz24, hL24⟩ := olp_e hL24
            have hz24 : fX9_tellsApart_b17 st p3 x4_2 p2 x5_4 ia_8 = some z := hz24
            unfold fX9_tellsApart_b17 at hz24
            refine lv_iload (pc := 17) hx hb dX9_tellsApart_17 (lv_at hl 0 rfl) ?_
            refine lv_aload_n (pc := 19) hx hb dX9_tellsApart_19 rfl (lv_at hl 2 rfl) ?_
            refine va_get (pc := 20) (ci := 9) (C := RX9) (T := TX9) (N := 17) hx hb hts inX9 hown hK hP 0 rfl rfl 0 (by decide) fl7 (fun _ h9 => h9) rfl dX9_tellsApart_20 ?_
            refine lv_iconst (v := (0 : Int32)) (pc := 23) hx hb dX9_tellsApart_23 (by decide) ?_
            refine z_iald (pc := 24) (k := 0) hx hb hK hP 1 0 rfl rfl (by decide) (by decide) dX9_tellsApart_24 ?_
            refine lv_icmp_ge (pc := 25) (tgt := 109) hx hb dX9_tellsApart_25 (by decide) (fun hc => ?_) (fun hc => ?_)
            · have hz24 := oif_t hz24 hc
              have hE := olp_r hz24 hL24
              cases hE
              exact ex24 _ _ _ hP hD hS (lv_sub hl [1, 2, 3, 4, 5] rfl)
            · have hz24 := oif_f hz24 hc
              refine lv_iload_n (pc := 28) hx hb dX9_tellsApart_28 rfl (lv_at hl 5 rfl) ?_
              refine lv_iconst (v := (3 : Int32)) (pc := 29) hx hb dX9_tellsApart_29 (by decide) ?_
              obtain ⟨z0_7, hM27, hz24⟩ := ob1_e hz24
              have jn27 : ∀ (H : Heap) (locs : List Loc) (ls : Array Slot), va_P D vwCl (wX9_tellsApart cI cZ cM cS mo mst mpa mim mik mbi mbk mnr mia min mas mpr mfa mme mse deeds sd ent st nr ia_8 inw) H → va_D A (wX9_tellsApart cI cZ cM cS mo mst mpa mim mik mbi mbk mnr mia min mas mpr mfa mme mse deeds sd ent st nr ia_8 inw) → va_S A s.heap H locs → lv_has ls 7 [(5, .int x5_4), (4, .int x4_2), (0, .ref mo), (1, .ref mst), (2, .int p2), (3, .int p3)] → W p l e (zRm 3 71) s m args below meth c H locs 0 0 Q (F0 m 63 ls [.int z0_7]) := by
                intro H locs ls hP hD hS hl
                refine lv_istore (lv' := [(6, .int z0_7), (5, .int x5_4), (4, .int x4_2), (0, .ref mo), (1, .ref mst), (2, .int p2), (3, .int p3)]) (pc := 63) hx hb dX9_tellsApart_63 hl (by decide) rfl (fun ls hl => ?_)
                refine lv_aload_n (pc := 65) hx hb dX9_tellsApart_65 rfl (lv_at hl 3 rfl) ?_
                refine va_get (pc := 66) (ci := 9) (C := RX9) (T := TX9) (N := 17) hx hb hts inX9 hown hK hP 0 rfl rfl 10 (by decide) fl32 (fun _ h9 => h9) rfl dX9_tellsApart_66 ?_
                refine lv_bipush (v := (12 : Int32)) (pc := 69) hx hb dX9_tellsApart_69 (by decide) ?_
                refine lv_iload (pc := 71) hx hb dX9_tellsApart_71 (lv_at hl 2 rfl) ?_
                refine lv_imul (pc := 73) hx hb dX9_tellsApart_73 ?_
                refine lv_iload (pc := 74) hx hb dX9_tellsApart_74 (lv_at hl 1 rfl) ?_
                refine lv_iadd (pc := 76) hx hb dX9_tellsApart_76 ?_
                refine lv_aload_n (pc := 77) hx hb dX9_tellsApart_77 rfl (lv_at hl 4 rfl) ?_
                refine lv_iload_n (pc := 78) hx hb dX9_tellsApart_78 rfl (lv_at hl 5 rfl) ?_
                refine lv_iload (pc := 79) hx hb dX9_tellsApart_79 (lv_at hl 2 rfl) ?_
                refine lv_iadd (pc := 81) hx hb dX9_tellsApart_81 ?_
                obtain ⟨hg28, hz24⟩ := ogd_e hz24
                refine va_iald (pc := 82) hx hb hK hP 1 0 rfl rfl hg28 dX9_tellsApart_82 ?_
                refine lv_aload_n (pc := 83) hx hb dX9_tellsApart_83 rfl (lv_at hl 4 rfl) ?_
                refine lv_iload_n (pc := 84) hx hb dX9_tellsApart_84 rfl (lv_at hl 5 rfl) ?_
                refine lv_iload (pc := 85) hx hb dX9_tellsApart_85 (lv_at hl 1 rfl) ?_
                refine lv_iadd (pc := 87) hx hb dX9_tellsApart_87 ?_
                obtain ⟨hg29, hz24⟩ := ogd_e hz24
                refine va_iald (pc := 88) hx hb hK hP 1 0 rfl rfl hg29 dX9_tellsApart_88 ?_
                obtain ⟨z0_8, hM30, hz24⟩ := ob1_e hz24
                have jn30 : ∀ (H : Heap) (locs : List Loc) (ls : Array Slot), va_P D vwCl (wX9_tellsApart cI cZ cM cS mo mst mpa mim mik mbi mbk mnr mia min mas mpr mfa mme mse deeds sd ent st nr ia_8 inw) H → va_D A (wX9_tellsApart cI cZ cM cS mo mst mpa mim mik mbi mbk mnr mia min mas mpr mfa mme mse deeds sd ent st nr ia_8 inw) → va_S A s.heap H locs → lv_has ls 7 [(5, .int x5_4), (4, .int x4_2), (0, .ref mo), (1, .ref mst), (2, .int p2), (3, .int p3)] → W p l e (zRm 3 71) s m args below meth c H locs 0 0 Q (F0 m 102 ls [.int z0_8, .int (((12 : Int32) * x4_2) + x5_4), .ref mia]) := by
                  intro H locs ls hP hD hS hl
                  obtain ⟨hg31, hz24⟩ := ogd_e hz24
                  refine va_zast (pc := 102) hx hb hK hP hD hS 3 1 rfl rfl hg31 dX9_tellsApart_102 (fun H locs hP hD hS => ?_)
                  have hP : va_P D vwCl (wX9_tellsApart cI cZ cM cS mo mst mpa mim mik mbi mbk mnr mia min mas mpr mfa mme mse deeds sd ent st nr (upd ia_8 (Int32.toNatClampNeg (((12 : Int32) * x4_2) + x5_4)) (vp_nar .boolean z0_8)) inw) H := hP
                  have hD : va_D A (wX9_tellsApart cI cZ cM cS mo mst mpa mim mik mbi mbk mnr mia min mas mpr mfa mme mse deeds sd ent st nr (upd ia_8 (Int32.toNatClampNeg (((12 : Int32) * x4_2) + x5_4)) (vp_nar .boolean z0_8)) inw) := hD
                  refine lv_iinc (v := (x5_4 + (1 : Int32))) (lv' := [(5, .int (x5_4 + (1 : Int32))), (4, .int x4_2), (0, .ref mo), (1, .ref mst), (2, .int p2), (3, .int p3)]) (pc := 103) hx hb dX9_tellsApart_103 hl (k := 0) rfl rfl (by decide) rfl (fun ls hl => ?_)
                  refine lv_goto (pc := 106) (tgt := 17) hx hb dX9_tellsApart_106 (by decide) ?_
                  exact ih _ _ _ _ _ (olp_l hz24 hL24) hP hD hS (lv_sub hl [0, 1, 2, 3, 4, 5] rfl)
                refine lv_icmp_ne (pc := 89) (tgt := 97) hx hb dX9_tellsApart_89 (by decide) (fun hc => ?_) (fun hc => ?_)
                · have hM30 := oif_f hM30 hc
                  refine lv_iconst (v := (1 : Int32)) (pc := 97) hx hb dX9_tellsApart_97 (by decide) ?_
                  refine lv_goto (pc := 98) (tgt := 102) hx hb dX9_tellsApart_98 (by decide) ?_
                  cases hM30
                  exact jn30 _ _ _ hP hD hS (lv_sub hl [1, 2, 3, 4, 5, 6] rfl)
                · have hM30 := oif_t hM30 hc
                  refine lv_iload (pc := 92) hx hb dX9_tellsApart_92 (lv_at hl 0 rfl) ?_
                  refine lv_if_eq (pc := 94) (tgt := 101) hx hb dX9_tellsApart_94 (by decide) (fun hc => ?_) (fun hc => ?_)
                  · have hM30 := oif_t hM30 hc
                    refine lv_iconst (v := (0 : Int32)) (pc := 101) hx hb dX9_tellsApart_101 (by decide) ?_
                    cases hM30
                    exact jn30 _ _ _ hP hD hS (lv_sub hl [1, 2, 3, 4, 5, 6] rfl)
                  · have hM30 := oif_f hM30 hc
                    refine lv_iconst (v := (1 : Int32)) (pc := 97) hx hb dX9_tellsApart_97 (by decide) ?_
                    refine lv_goto (pc := 98) (tgt := 102) hx hb dX9_tellsApart_98 (by decide) ?_
                    cases hM30
                    exact jn30 _ _ _ hP hD hS (lv_sub hl [1, 2, 3, 4, 5, 6] rfl)
              refine lv_icmp_ne (pc := 30) (tgt := 62) hx hb dX9_tellsApart_30 (by decide) (fun hc => ?_) (fun hc => ?_)
              · have hM27 := oif_f hM27 hc
                refine lv_iconst (v := (0 : Int32)) (pc := 62) hx hb dX9_tellsApart_62 (by decide) ?_
                cases hM27
                exact jn27 _ _ _ hP hD hS (lv_sub hl [0, 1, 2, 3, 4, 5] rfl)
              · have hM27 := oif_t hM27 hc
                refine lv_aload_n (pc := 33) hx hb dX9_tellsApart_33 rfl (lv_at hl 2 rfl) ?_
                refine va_get (pc := 34) (ci := 9) (C := RX9) (T := TX9) (N := 17) hx hb hts inX9 hown hK hP 0 rfl rfl 0 (by decide) fl7 (fun _ h9 => h9) rfl dX9_tellsApart_34 ?_
                refine lv_iconst (v := (2 : Int32)) (pc := 37) hx hb dX9_tellsApart_37 (by decide) ?_
                refine z_iald (pc := 38) (k := 2) hx hb hK hP 1 0 rfl rfl (by decide) (by decide) dX9_tellsApart_38 ?_
                refine lv_iload (pc := 39) hx hb dX9_tellsApart_39 (lv_at hl 1 rfl) ?_
                obtain ⟨r_9, hC32, hM27⟩ := ob1_e hM27
                refine zSr (pc := 41) (As := [.int (st 2), .int x4_2]) (rest := []) E (tX9_has l D cI cZ cM cS (st 2) x4_2 hC32) 2 gX9_tellsApart_X9_has rfl rfl rfl (by decide +kernel) ⟨Nat.le_of_ble_eq_true rfl, Nat.le_of_ble_eq_true rfl⟩ hK hP [] rfl rfl hl.1 rfl (Nat.le_of_ble_eq_true rfl) dX9_tellsApart_41 ⟨Nat.zero_le _, Nat.zero_le _⟩ ?_
                refine lv_aload_n (pc := 44) hx hb dX9_tellsApart_44 rfl (lv_at hl 2 rfl) ?_
                refine va_get (pc := 45) (ci := 9) (C := RX9) (T := TX9) (N := 17) hx hb hts inX9 hown hK hP 0 rfl rfl 0 (by decide) fl7 (fun _ h9 => h9) rfl dX9_tellsApart_45 ?_
                refine lv_iconst (v := (2 : Int32)) (pc := 48) hx hb dX9_tellsApart_48 (by decide) ?_
                refine z_iald (pc := 49) (k := 2) hx hb hK hP 1 0 rfl rfl (by decide) (by decide) dX9_tellsApart_49 ?_
                refine lv_iload (pc := 50) hx hb dX9_tellsApart_50 (lv_at hl 0 rfl) ?_
                obtain ⟨r_10, hC33, hM27⟩ := ob1_e hM27
                refine zSr (pc := 52) (As := [.int (st 2), .int x5_4]) (rest := [.int r_9]) E (tX9_has l D cI cZ cM cS (st 2) x5_4 hC33) 2 gX9_tellsApart_X9_has rfl rfl rfl (by decide +kernel) ⟨Nat.le_of_ble_eq_true rfl, Nat.le_of_ble_eq_true rfl⟩ hK hP [] rfl rfl hl.1 rfl (Nat.le_of_ble_eq_true rfl) dX9_tellsApart_52 ⟨Nat.zero_le _, Nat.zero_le _⟩ ?_
                refine lv_icmp_eq (pc := 55) (tgt := 62) hx hb dX9_tellsApart_55 (by decide) (fun hc => ?_) (fun hc => ?_)
                · have hM27 := oif_t hM27 hc
                  refine lv_iconst (v := (0 : Int32)) (pc := 62) hx hb dX9_tellsApart_62 (by decide) ?_
                  cases hM27
                  exact jn27 _ _ _ hP hD hS (lv_sub hl [0, 1, 2, 3, 4, 5] rfl)
                · have hM27 := oif_f hM27 hc
                  refine lv_iconst (v := (1 : Int32)) (pc := 58) hx hb dX9_tellsApart_58 (by decide) ?_
                  refine lv_goto (pc := 59) (tgt := 63) hx hb dX9_tellsApart_59 (by decide) ?_
                  cases hM27
                  exact jn27 _ _ _ hP hD hS (lv_sub hl [0, 1, 2, 3, 4, 5] rfl)
        exact lp24 oFu _ _ _ _ _ hL24 hP hD hS (lv_sub hl [0, 1, 2, 3, 4, 5] rfl)
  exact lp16 oFu _ _ _ _ _ hL16 hP hD hS (lv_sub hl [0, 1, 2, 3, 4] rfl)
def fX9_tellsApart_a_b17 (st : (Nat → Int32)) (p3 : Int32) (x4_2 : Int32) (p2 : Int32) (asd : (Nat → Int32)) (x5_4 : Int32) (ia_8 : (Nat → Int32)) : Option ((Int32 × (Nat → Int32)) ⊕ ((Nat → Int32))) := (if (st 0) ≤ x5_4 then (some (.inr ia_8)) else (ob1 (if p3 = (3 : Int32) then (ob1 (fX9_has (st 2) x4_2) (fun r_9 => (ob1 (fX9_has (st 2) x5_4) (fun r_10 => (if r_9 = r_10 then (some (0 : Int32)) else (some (1 : Int32))))))) else (some (0 : Int32))) (fun z0_7 => (ogd (p2 + x4_2) 12 (ogd (p2 + x5_4) 12 (ob1 (if (asd (Int32.toNatClampNeg (p2 + x4_2))) = (asd (Int32.toNatClampNeg (p2 + x5_4))) then (if z0_7 = (0 : Int32) then (some (0 : Int32)) else (some (1 : Int32))) else (some (1 : Int32))) (fun z0_8 => (ogd (((12 : Int32) * x4_2) + x5_4) 144 (some (.inl ((x5_4 + (1 : Int32)), (upd ia_8 (Int32.toNatClampNeg (((12 : Int32) * x4_2) + x5_4)) (vp_nar .boolean z0_8)))))))))))))
def fX9_tellsApart_a_s17 (st : (Nat → Int32)) (p3 : Int32) (x4_2 : Int32) (p2 : Int32) (asd : (Nat → Int32)) (sg_ : Int32 × (Nat → Int32)) : Option ((Int32 × (Nat → Int32)) ⊕ ((Nat → Int32))) := fX9_tellsApart_a_b17 st p3 x4_2 p2 asd sg_.1 sg_.2
def fX9_tellsApart_a_b3 (st : (Nat → Int32)) (p3 : Int32) (p2 : Int32) (asd : (Nat → Int32)) (x4_2 : Int32) (ia_5 : (Nat → Int32)) : Option ((Int32 × (Nat → Int32)) ⊕ ((Nat → Int32))) := (if (st 0) ≤ x4_2 then (some (.inr ia_5)) else (ob1 (olp (fX9_tellsApart_a_s17 st p3 x4_2 p2 asd) oFu ((0 : Int32), ia_5)) (fun ia_9 => (some (.inl ((x4_2 + (1 : Int32)), ia_9))))))
def fX9_tellsApart_a_s3 (st : (Nat → Int32)) (p3 : Int32) (p2 : Int32) (asd : (Nat → Int32)) (sg_ : Int32 × (Nat → Int32)) : Option ((Int32 × (Nat → Int32)) ⊕ ((Nat → Int32))) := fX9_tellsApart_a_b3 st p3 p2 asd sg_.1 sg_.2
def fX9_tellsApart_a_b143 (st : (Nat → Int32)) (x5_10 : Int32) (ia_17 : (Nat → Int32)) (p2 : Int32) (p3 : Int32) (deeds : Int32) (sd : Int32) (ent : Int32) (x6_8 : Int32) (x4_21 : Int32) (inw_24 : (Nat → Int32)) : Option ((Int32 × Int32 × (Nat → Int32)) ⊕ (Int32 × (Nat → Int32))) := (if (st 0) ≤ x6_8 then (some (.inr (x4_21, inw_24))) else (ogd (((12 : Int32) * x5_10) + x6_8) 144 (ob1 (if (ia_17 (Int32.toNatClampNeg (((12 : Int32) * x5_10) + x6_8))) = (0 : Int32) then (ob1 (fX9_isOneMore p2 p3 x5_10 x6_8 deeds sd ent st ia_17) (fun r_19 => (if r_19 = (0 : Int32) then (some (0 : Int32)) else (some (1 : Int32))))) else (some (1 : Int32))) (fun z0_16 => (ogd (((12 : Int32) * x5_10) + x6_8) 144 (if x4_21 = (0 : Int32) then (ogd (((12 : Int32) * x5_10) + x6_8) 144 (ogd (((12 : Int32) * x5_10) + x6_8) 144 (if ((upd inw_24 (Int32.toNatClampNeg (((12 : Int32) * x5_10) + x6_8)) (vp_nar .boolean z0_16)) (Int32.toNatClampNeg (((12 : Int32) * x5_10) + x6_8))) = (ia_17 (Int32.toNatClampNeg (((12 : Int32) * x5_10) + x6_8))) then (some (.inl ((x6_8 + (1 : Int32)), (0 : Int32), (upd inw_24 (Int32.toNatClampNeg (((12 : Int32) * x5_10) + x6_8)) (vp_nar .boolean z0_16))))) else (some (.inl ((x6_8 + (1 : Int32)), (1 : Int32), (upd inw_24 (Int32.toNatClampNeg (((12 : Int32) * x5_10) + x6_8)) (vp_nar .boolean z0_16)))))))) else (some (.inl ((x6_8 + (1 : Int32)), (1 : Int32), (upd inw_24 (Int32.toNatClampNeg (((12 : Int32) * x5_10) + x6_8)) (vp_nar .boolean z0_16)))))))))))
def fX9_tellsApart_a_s143 (st : (Nat → Int32)) (x5_10 : Int32) (ia_17 : (Nat → Int32)) (p2 : Int32) (p3 : Int32) (deeds : Int32) (sd : Int32) (ent : Int32) (sg_ : Int32 × Int32 × (Nat → Int32)) : Option ((Int32 × Int32 × (Nat → Int32)) ⊕ (Int32 × (Nat → Int32))) := fX9_tellsApart_a_b143 st x5_10 ia_17 p2 p3 deeds sd ent sg_.1 sg_.2.1 sg_.2.2
def fX9_tellsApart_a_b129 (st : (Nat → Int32)) (ia_17 : (Nat → Int32)) (p2 : Int32) (p3 : Int32) (deeds : Int32) (sd : Int32) (ent : Int32) (x5_10 : Int32) (x4_18 : Int32) (inw_21 : (Nat → Int32)) : Option ((Int32 × Int32 × (Nat → Int32)) ⊕ (Int32 × (Nat → Int32))) := (if (st 0) ≤ x5_10 then (some (.inr (x4_18, inw_21))) else (ob2 (olp (fX9_tellsApart_a_s143 st x5_10 ia_17 p2 p3 deeds sd ent) oFu ((0 : Int32), x4_18, inw_21)) (fun x4_22 inw_25 => (some (.inl ((x5_10 + (1 : Int32)), x4_22, inw_25))))))
def fX9_tellsApart_a_s129 (st : (Nat → Int32)) (ia_17 : (Nat → Int32)) (p2 : Int32) (p3 : Int32) (deeds : Int32) (sd : Int32) (ent : Int32) (sg_ : Int32 × Int32 × (Nat → Int32)) : Option ((Int32 × Int32 × (Nat → Int32)) ⊕ (Int32 × (Nat → Int32))) := fX9_tellsApart_a_b129 st ia_17 p2 p3 deeds sd ent sg_.1 sg_.2.1 sg_.2.2
def fX9_tellsApart_a_b258 (inw_22 : (Nat → Int32)) (x5_12 : Int32) (ia_23 : (Nat → Int32)) : Option ((Int32 × (Nat → Int32)) ⊕ ((Nat → Int32))) := (if (144 : Int32) ≤ x5_12 then (some (.inr ia_23)) else (ogd x5_12 144 (ogd x5_12 144 (some (.inl ((x5_12 + (1 : Int32)), (upd ia_23 (Int32.toNatClampNeg x5_12) (vp_nar .boolean (inw_22 (Int32.toNatClampNeg x5_12))))))))))
def fX9_tellsApart_a_s258 (inw_22 : (Nat → Int32)) (sg_ : Int32 × (Nat → Int32)) : Option ((Int32 × (Nat → Int32)) ⊕ ((Nat → Int32))) := fX9_tellsApart_a_b258 inw_22 sg_.1 sg_.2
def fX9_tellsApart_a_b118 (st : (Nat → Int32)) (p2 : Int32) (p3 : Int32) (deeds : Int32) (sd : Int32) (ent : Int32) (x4_13 : Int32) (ia_17 : (Nat → Int32)) (inw_15 : (Nat → Int32)) : Option ((Int32 × (Nat → Int32) × (Nat → Int32)) ⊕ ((Nat → Int32) × (Nat → Int32))) := (if x4_13 = (0 : Int32) then (some (.inr (ia_17, inw_15))) else (ob2 (olp (fX9_tellsApart_a_s129 st ia_17 p2 p3 deeds sd ent) oFu ((0 : Int32), (0 : Int32), inw_15)) (fun x4_19 inw_22 => (ob1 (olp (fX9_tellsApart_a_s258 inw_22) oFu ((0 : Int32), ia_17)) (fun ia_24 => (some (.inl (x4_19, ia_24, inw_22))))))))
def fX9_tellsApart_a_s118 (st : (Nat → Int32)) (p2 : Int32) (p3 : Int32) (deeds : Int32) (sd : Int32) (ent : Int32) (sg_ : Int32 × (Nat → Int32) × (Nat → Int32)) : Option ((Int32 × (Nat → Int32) × (Nat → Int32)) ⊕ ((Nat → Int32) × (Nat → Int32))) := fX9_tellsApart_a_b118 st p2 p3 deeds sd ent sg_.1 sg_.2.1 sg_.2.2
def fX9_tellsApart_a_b307 (st : (Nat → Int32)) (x5_14 : Int32) (ia_18 : (Nat → Int32)) (x6_12 : Int32) (nr_20 : (Nat → Int32)) : Option ((Int32 × (Nat → Int32)) ⊕ ((Nat → Int32))) := (if (st 0) ≤ x6_12 then (some (.inr nr_20)) else (ogd (((12 : Int32) * x5_14) + x6_12) 144 (ob1 (if (ia_18 (Int32.toNatClampNeg (((12 : Int32) * x5_14) + x6_12))) = (0 : Int32) then (some x5_14) else (ogd x6_12 12 (some (nr_20 (Int32.toNatClampNeg x6_12))))) (fun z0_20 => (ogd x6_12 12 (some (.inl ((x6_12 + (1 : Int32)), (upd nr_20 (Int32.toNatClampNeg x6_12) z0_20)))))))))
def fX9_tellsApart_a_s307 (st : (Nat → Int32)) (x5_14 : Int32) (ia_18 : (Nat → Int32)) (sg_ : Int32 × (Nat → Int32)) : Option ((Int32 × (Nat → Int32)) ⊕ ((Nat → Int32))) := fX9_tellsApart_a_b307 st x5_14 ia_18 sg_.1 sg_.2
def fX9_tellsApart_a_b299 (st : (Nat → Int32)) (ia_18 : (Nat → Int32)) (x5_14 : Int32) (nr_17 : (Nat → Int32)) : Option ((Int32 × (Nat → Int32)) ⊕ ((Nat → Int32))) := (if x5_14 < (0 : Int32) then (some (.inr nr_17)) else (ob1 (olp (fX9_tellsApart_a_s307 st x5_14 ia_18) oFu ((0 : Int32), nr_17)) (fun nr_21 => (some (.inl ((x5_14 + (-1 : Int32)), nr_21))))))
def fX9_tellsApart_a_s299 (st : (Nat → Int32)) (ia_18 : (Nat → Int32)) (sg_ : Int32 × (Nat → Int32)) : Option ((Int32 × (Nat → Int32)) ⊕ ((Nat → Int32))) := fX9_tellsApart_a_b299 st ia_18 sg_.1 sg_.2
def fX9_tellsApart_a (p2 : Int32) (p3 : Int32) (deeds : Int32) (sd : Int32) (ent : Int32) (st : (Nat → Int32)) (nr : (Nat → Int32)) (ia : (Nat → Int32)) (inw : (Nat → Int32)) (asd : (Nat → Int32)) : Option ((Nat → Int32) × (Nat → Int32) × (Nat → Int32) × (Nat → Int32)) := (ob1 (olp (fX9_tellsApart_a_s3 st p3 p2 asd) oFu ((0 : Int32), ia)) (fun ia_6 => (ob2 (olp (fX9_tellsApart_a_s118 st p2 p3 deeds sd ent) oFu ((1 : Int32), ia_6, inw)) (fun ia_18 inw_16 => (ob1 (olp (fX9_tellsApart_a_s299 st ia_18) oFu (((st 0) - (1 : Int32)), nr)) (fun nr_18 => (ob1 (fX9_bring 12 12 (0 : Int32) p2 (st 0) nr_18 asd) (fun asd_16 => (ob2 (fX9_arranges_a p2 deeds sd ent st nr_18 asd_16) (fun nr_22 asd_17 => (some (nr_22, ia_18, inw_16, asd_17))))))))))))
abbrev wX9_tellsApart_a (cI cZ cM cS : ClassId) (mo mst mpa mim mik mbi mbk mnr mia min mas mpr mfa mme mse : Nat) (deeds : Int32) (sd : Int32) (ent : Int32) (st : (Nat → Int32)) (nr : (Nat → Int32)) (ia : (Nat → Int32)) (inw : (Nat → Int32)) (asd : (Nat → Int32)) : va_W := [(mo, .inr (9, [.ref mst, .ref mpa, .int deeds, .ref mim, .ref mik, .int sd, .ref mbi, .ref mbk, .int ent, .ref mnr, .ref mia, .ref min, .ref mas, .ref mpr, .ref mfa, .ref mme, .ref mse])), (mst, .inl (cI, 76, .inl st)), (mnr, .inl (cI, 12, .inl nr)), (mia, .inl (cZ, 144, .inl ia)), (min, .inl (cZ, 144, .inl inw)), (mas, .inl (cI, 12, .inl asd))]
set_option maxHeartbeats 4000000 in
set_option maxRecDepth 100000 in
theorem tX9_tellsApart_a (l : Launch) (D : va_G) (cI cZ cM cS : ClassId) (mo mst mpa mim mik mbi mbk mnr mia min mas mpr mfa mme mse : Nat) (deeds : Int32) (sd : Int32) (ent : Int32) (st : (Nat → Int32)) (nr : (Nat → Int32)) (ia : (Nat → Int32)) (inw : (Nat → Int32)) (asd : (Nat → Int32)) (p2 : Int32) (p3 : Int32) {nr' : (Nat → Int32)} {ia' : (Nat → Int32)} {inw' : (Nat → Int32)} {asd' : (Nat → Int32)} (hF : fX9_tellsApart_a p2 p3 deeds sd ent st nr ia inw asd = some (nr', ia', inw', asd')) : zCW l yX9_tellsApart wsX9_tellsApart (zRm 3 71) D (zTy cI cZ cM cS) [.ref mo, .ref mas, .int p2, .int p3] (wX9_tellsApart_a cI cZ cM cS mo mst mpa mim mik mbi mbk mnr mia min mas mpr mfa mme mse deeds sd ent st nr ia inw asd) (wX9_tellsApart_a cI cZ cM cS mo mst mpa mim mik mbi mbk mnr mia min mas mpr mfa mme mse deeds sd ent st nr' ia' inw' asd') none := by
  unfold fX9_tellsApart_a at hF
  refine zCW_ofv (cc := cX9_tellsApart) (maxL := 7) (own := RX9) (by decide) rfl rfl (Nat.le_of_ble_eq_true rfl) (fun p e s m args below meth c Q ls A E hA hK hP hD hRet hS hl => ?_)
  refine zgen (fun H locs hP hS => ?_) hP hS
  have hl : lv_has ls 7 [(0, .ref mo), (1, .ref mas), (2, .int p2), (3, .int p3)] := hl
  obtain ⟨hx, hb, hml, hown, hts⟩ := id E
  have inX9 : ∀ w ∈ u_ws RX9 TX9 17, w ∈ wsX9_tellsApart := by decide +kernel
  have fl29 := hts (.fieldLink RX9 29 "SplitClassesModel" "newRow" "[I") (by decide +kernel)
  have fl32 := hts (.fieldLink RX9 32 "SplitClassesModel" "isApart" "[Z") (by decide +kernel)
  have fl35 := hts (.fieldLink RX9 35 "SplitClassesModel" "isNow" "[Z") (by decide +kernel)
  have fl7 := hts (.fieldLink RX9 7 "SplitClassesModel" "st" "[I") (by decide +kernel)
  refine lv_iconst (v := (0 : Int32)) (pc := 0) hx hb dX9_tellsApart_0 (by decide) ?_
  refine lv_istore (lv' := [(4, .int (0 : Int32)), (0, .ref mo), (1, .ref mas), (2, .int p2), (3, .int p3)]) (pc := 1) hx hb dX9_tellsApart_1 hl (by decide) rfl (fun ls hl => ?_)
  obtain ⟨ia_6, hL16, hF⟩ := ob1_e hF
  have ex16 : ∀ (H : Heap) (locs : List Loc) (ls : Array Slot), va_P D vwCl (wX9_tellsApart_a cI cZ cM cS mo mst mpa mim mik mbi mbk mnr mia min mas mpr mfa mme mse deeds sd ent st nr ia_6 inw asd) H → va_D A (wX9_tellsApart_a cI cZ cM cS mo mst mpa mim mik mbi mbk mnr mia min mas mpr mfa mme mse deeds sd ent st nr ia_6 inw asd) → va_S A s.heap H locs → lv_has ls 7 [(0, .ref mo), (1, .ref mas), (2, .int p2), (3, .int p3)] → W p l e (zRm 3 71) s m args below meth c H locs 0 0 Q (F0 m 115 ls []) := by
    intro H locs ls hP hD hS hl
    refine lv_iconst (v := (1 : Int32)) (pc := 115) hx hb dX9_tellsApart_115 (by decide) ?_
    refine lv_istore (lv' := [(4, .int (1 : Int32)), (0, .ref mo), (1, .ref mas), (2, .int p2), (3, .int p3)]) (pc := 116) hx hb dX9_tellsApart_116 hl (by decide) rfl (fun ls hl => ?_)
    obtain ⟨ia_18, inw_16, hL66, hF⟩ := ob2_e hF
    have ex66 : ∀ (H : Heap) (locs : List Loc) (ls : Array Slot), va_P D vwCl (wX9_tellsApart_a cI cZ cM cS mo mst mpa mim mik mbi mbk mnr mia min mas mpr mfa mme mse deeds sd ent st nr ia_18 inw_16 asd) H → va_D A (wX9_tellsApart_a cI cZ cM cS mo mst mpa mim mik mbi mbk mnr mia min mas mpr mfa mme mse deeds sd ent st nr ia_18 inw_16 asd) → va_S A s.heap H locs → lv_has ls 7 [(0, .ref mo), (1, .ref mas), (2, .int p2)] → W p l e (zRm 3 71) s m args below meth c H locs 0 0 Q (F0 m 289 ls []) := by
      intro H locs ls hP hD hS hl
      refine lv_aload_n (pc := 289) hx hb dX9_tellsApart_289 rfl (lv_at hl 0 rfl) ?_
      refine va_get (pc := 290) (ci := 9) (C := RX9) (T := TX9) (N := 17) hx hb hts inX9 hown hK hP 0 rfl rfl 0 (by decide) fl7 (fun _ h9 => h9) rfl dX9_tellsApart_290 ?_
      refine lv_iconst (v := (0 : Int32)) (pc := 293) hx hb dX9_tellsApart_293 (by decide) ?_
      refine z_iald (pc := 294) (k := 0) hx hb hK hP 1 0 rfl rfl (by decide) (by decide) dX9_tellsApart_294 ?_
      refine lv_iconst (v := (1 : Int32)) (pc := 295) hx hb dX9_tellsApart_295 (by decide) ?_
      refine lv_isub (pc := 296) hx hb dX9_tellsApart_296 ?_
      refine lv_istore (lv' := [(5, .int ((st 0) - (1 : Int32))), (0, .ref mo), (1, .ref mas), (2, .int p2)]) (pc := 297) hx hb dX9_tellsApart_297 hl (by decide) rfl (fun ls hl => ?_)
      obtain ⟨nr_18, hL109, hF⟩ := ob1_e hF
      have ex109 : ∀ (H : Heap) (locs : List Loc) (ls : Array Slot), va_P D vwCl (wX9_tellsApart_a cI cZ cM cS mo mst mpa mim mik mbi mbk mnr mia min mas mpr mfa mme mse deeds sd ent st nr_18 ia_18 inw_16 asd) H → va_D A (wX9_tellsApart_a cI cZ cM cS mo mst mpa mim mik mbi mbk mnr mia min mas mpr mfa mme mse deeds sd ent st nr_18 ia_18 inw_16 asd) → va_S A s.heap H locs → lv_has ls 7 [(0, .ref mo), (1, .ref mas), (2, .int p2)] → W p l e (zRm 3 71) s m args below meth c H locs 0 0 Q (F0 m 365 ls []) := by
        intro H locs ls hP hD hS hl
        refine lv_aload_n (pc := 365) hx hb dX9_tellsApart_365 rfl (lv_at hl 0 rfl) ?_
        refine va_get (pc := 366) (ci := 9) (C := RX9) (T := TX9) (N := 17) hx hb hts inX9 hown hK hP 0 rfl rfl 9 (by decide) fl29 (fun _ h9 => h9) rfl dX9_tellsApart_366 ?_
        refine lv_iconst (v := (0 : Int32)) (pc := 369) hx hb dX9_tellsApart_369 (by decide) ?_
        refine lv_aload_n (pc := 370) hx hb dX9_tellsApart_370 rfl (lv_at hl 1 rfl) ?_
        refine lv_iload_n (pc := 371) hx hb dX9_tellsApart_371 rfl (lv_at hl 2 rfl) ?_
        refine lv_aload_n (pc := 372) hx hb dX9_tellsApart_372 rfl (lv_at hl 0 rfl) ?_
        refine va_get (pc := 373) (ci := 9) (C := RX9) (T := TX9) (N := 17) hx hb hts inX9 hown hK hP 0 rfl rfl 0 (by decide) fl7 (fun _ h9 => h9) rfl dX9_tellsApart_373 ?_
        refine lv_iconst (v := (0 : Int32)) (pc := 376) hx hb dX9_tellsApart_376 (by decide) ?_
        refine z_iald (pc := 377) (k := 0) hx hb hK hP 1 0 rfl rfl (by decide) (by decide) dX9_tellsApart_377 ?_
        obtain ⟨asd_16, hC120, hF⟩ := ob1_e hF
        refine zS (pc := 378) (As := [.ref mnr, .int (0 : Int32), .ref mas, .int p2, .int (st 0)]) (rest := []) (wr := [(mo, .inr (9, [.ref mst, .ref mpa, .int deeds, .ref mim, .ref mik, .int sd, .ref mbi, .ref mbk, .int ent, .ref mnr, .ref mia, .ref min, .ref mas, .ref mpr, .ref mfa, .ref mme, .ref mse])), (mst, .inl (cI, 76, .inl st)), (mia, .inl (cZ, 144, .inl ia_18)), (min, .inl (cZ, 144, .inl inw_16))]) (w2 := (wX9_tellsApart_a cI cZ cM cS mo mst mpa mim mik mbi mbk mnr mia min mas mpr mfa mme mse deeds sd ent st nr_18 ia_18 inw_16 asd_16)) E (tX9_bring l D cI cZ cM cS mnr mas 12 12 nr_18 asd (0 : Int32) p2 (st 0) hC120) 5 gX9_tellsApart_X9_bring rfl rfl rfl (by decide +kernel) ⟨Nat.le_of_ble_eq_true rfl, Nat.le_of_ble_eq_true rfl⟩ hK hP hD hS hA [2, 5] [0, 1, 3, 4] [0, 1, 4, 2, 3, 5] (by decide) rfl rfl (by decide) (by decide) rfl (by decide) rfl hl.1 rfl (Nat.le_of_ble_eq_true rfl) dX9_tellsApart_378 ⟨Nat.zero_le _, Nat.zero_le _⟩ (fun H locs hP hD hS => ?_)
        refine W.eq (g2 := F0 m 381 ls []) rfl ?_
        refine lv_aload_n (pc := 381) hx hb dX9_tellsApart_381 rfl (lv_at hl 0 rfl) ?_
        refine lv_aload_n (pc := 382) hx hb dX9_tellsApart_382 rfl (lv_at hl 1 rfl) ?_
        refine lv_iload_n (pc := 383) hx hb dX9_tellsApart_383 rfl (lv_at hl 2 rfl) ?_
        obtain ⟨nr_22, asd_17, hC121, hF⟩ := ob2_e hF
        refine zV (pc := 384) (As := [.ref mas, .int p2]) (rest := []) (wr := [(mia, .inl (cZ, 144, .inl ia_18)), (min, .inl (cZ, 144, .inl inw_16))]) (w2 := (wX9_tellsApart_a cI cZ cM cS mo mst mpa mim mik mbi mbk mnr mia min mas mpr mfa mme mse deeds sd ent st nr_22 ia_18 inw_16 asd_17)) E (tX9_arranges_a l D cI cZ cM cS mo mst mpa mim mik mbi mbk mnr mia min mas mpr mfa mme mse deeds sd ent st nr_18 asd_16 p2 hC121) 2 gX9_tellsApart_X9_arranges rfl rfl rfl (by decide +kernel) ⟨Nat.le_of_ble_eq_true rfl, Nat.le_of_ble_eq_true rfl⟩ hK hP hD hS hA [0, 1, 2, 5] [3, 4] [2, 3, 4, 0, 1, 5] (by decide) rfl rfl (by decide) (by decide) rfl (by decide) 0 9 rfl rfl rfl rfl hl.1 rfl (Nat.le_of_ble_eq_true rfl) dX9_tellsApart_384 ⟨Nat.zero_le _, Nat.zero_le _⟩ (fun H locs hP hD hS => ?_)
        refine W.eq (g2 := F0 m 387 ls []) rfl ?_
        cases hF
        exact hRet _ _ _ _ dX9_tellsApart_387 hP hD hS
      have lp109 : ∀ (n : Nat) (x5_14 : Int32) (nr_17 : (Nat → Int32)) (H : Heap) (locs : List Loc) (ls : Array Slot), olp (fX9_tellsApart_a_s299 st ia_18) n (x5_14, nr_17) = some nr_18 → va_P D vwCl (wX9_tellsApart_a cI cZ cM cS mo mst mpa mim mik mbi mbk mnr mia min mas mpr mfa mme mse deeds sd ent st nr_17 ia_18 inw_16 asd) H → va_D A (wX9_tellsApart_a cI cZ cM cS mo mst mpa mim mik mbi mbk mnr mia min mas mpr mfa mme mse deeds sd ent st nr_17 ia_18 inw_16 asd) → va_S A s.heap H locs → lv_has ls 7 [(5, .int x5_14), (0, .ref mo), (1, .ref mas), (2, .int p2)] → W p l e (zRm 3 71) s m args below meth c H locs 0 0 Q (F0 m 299 ls []) := by
        intro n
        induction n with
        | zero => intro x5_14 nr_17 H locs ls hL; exact olp_0 hL
        | succ n ih =>
          intro x5_14 nr_17 H locs ls hL109 hP hD hS hl
          obtain ⟨z, hz109, hL109⟩ := olp_e hL109
          have hz109 : fX9_tellsApart_a_b299 st ia_18 x5_14 nr_17 = some z := hz109
          unfold fX9_tellsApart_a_b299 at hz109
          refine lv_iload (pc := 299) hx hb dX9_tellsApart_299 (lv_at hl 0 rfl) ?_
          refine lv_if_lt (pc := 301) (tgt := 365) hx hb dX9_tellsApart_301 (by decide) (fun hc => ?_) (fun hc => ?_)
          · have hz109 := oif_t hz109 hc
            have hE := olp_r hz109 hL109
            cases hE
            exact ex109 _ _ _ hP hD hS (lv_sub hl [1, 2, 3] rfl)
          · have hz109 := oif_f hz109 hc
            refine lv_iconst (v := (0 : Int32)) (pc := 304) hx hb dX9_tellsApart_304 (by decide) ?_
            refine lv_istore (lv' := [(6, .int (0 : Int32)), (5, .int x5_14), (0, .ref mo), (1, .ref mas), (2, .int p2)]) (pc := 305) hx hb dX9_tellsApart_305 hl (by decide) rfl (fun ls hl => ?_)
            obtain ⟨nr_21, hL114, hz109⟩ := ob1_e hz109
            have ex114 : ∀ (H : Heap) (locs : List Loc) (ls : Array Slot), va_P D vwCl (wX9_tellsApart_a cI cZ cM cS mo mst mpa mim mik mbi mbk mnr mia min mas mpr mfa mme mse deeds sd ent st nr_21 ia_18 inw_16 asd) H → va_D A (wX9_tellsApart_a cI cZ cM cS mo mst mpa mim mik mbi mbk mnr mia min mas mpr mfa mme mse deeds sd ent st nr_21 ia_18 inw_16 asd) → va_S A s.heap H locs → lv_has ls 7 [(5, .int x5_14), (0, .ref mo), (1, .ref mas), (2, .int p2)] → W p l e (zRm 3 71) s m args below meth c H locs 0 0 Q (F0 m 359 ls []) := by
              intro H locs ls hP hD hS hl
              refine lv_iinc (v := (x5_14 + (-1 : Int32))) (lv' := [(5, .int (x5_14 + (-1 : Int32))), (0, .ref mo), (1, .ref mas), (2, .int p2)]) (pc := 359) hx hb dX9_tellsApart_359 hl (k := 0) rfl rfl (by decide) rfl (fun ls hl => ?_)
              refine lv_goto (pc := 362) (tgt := 299) hx hb dX9_tellsApart_362 (by decide) ?_
              exact ih _ _ _ _ _ (olp_l hz109 hL109) hP hD hS (lv_sub hl [0, 1, 2, 3] rfl)
            have lp114 : ∀ (n : Nat) (x6_12 : Int32) (nr_20 : (Nat → Int32)) (H : Heap) (locs : List Loc) (ls : Array Slot), olp (fX9_tellsApart_a_s307 st x5_14 ia_18) n (x6_12, nr_20) = some nr_21 → va_P D vwCl (wX9_tellsApart_a cI cZ cM cS mo mst mpa mim mik mbi mbk mnr mia min mas mpr mfa mme mse deeds sd ent st nr_20 ia_18 inw_16 asd) H → va_D A (wX9_tellsApart_a cI cZ cM cS mo mst mpa mim mik mbi mbk mnr mia min mas mpr mfa mme mse deeds sd ent st nr_20 ia_18 inw_16 asd) → va_S A s.heap H locs → lv_has ls 7 [(6, .int x6_12), (5, .int x5_14), (0, .ref mo), (1, .ref mas), (2, .int p2)] → W p l e (zRm 3 71) s m args below meth c H locs 0 0 Q (F0 m 307 ls []) := by
              intro n
              induction n with
              | zero => intro x6_12 nr_20 H locs ls hL; exact olp_0 hL
              | succ n ih =>
                intro x6_12 nr_20 H locs ls hL114 hP hD hS hl
                obtain ⟨z, hz114, hL114⟩ := olp_e hL114
                have hz114 : fX9_tellsApart_a_b307 st x5_14 ia_18 x6_12 nr_20 = some z := hz114
                unfold fX9_tellsApart_a_b307 at hz114
                refine lv_iload (pc := 307) hx hb dX9_tellsApart_307 (lv_at hl 0 rfl) ?_
                refine lv_aload_n (pc := 309) hx hb dX9_tellsApart_309 rfl (lv_at hl 2 rfl) ?_
                refine va_get (pc := 310) (ci := 9) (C := RX9) (T := TX9) (N := 17) hx hb hts inX9 hown hK hP 0 rfl rfl 0 (by decide) fl7 (fun _ h9 => h9) rfl dX9_tellsApart_310 ?_
                refine lv_iconst (v := (0 : Int32)) (pc := 313) hx hb dX9_tellsApart_313 (by decide) ?_
                refine z_iald (pc := 314) (k := 0) hx hb hK hP 1 0 rfl rfl (by decide) (by decide) dX9_tellsApart_314 ?_
                refine lv_icmp_ge (pc := 315) (tgt := 359) hx hb dX9_tellsApart_315 (by decide) (fun hc => ?_) (fun hc => ?_)
                · have hz114 := oif_t hz114 hc
                  have hE := olp_r hz114 hL114
                  cases hE
                  exact ex114 _ _ _ hP hD hS (lv_sub hl [1, 2, 3, 4] rfl)
                · have hz114 := oif_f hz114 hc
                  refine lv_aload_n (pc := 318) hx hb dX9_tellsApart_318 rfl (lv_at hl 2 rfl) ?_
                  refine va_get (pc := 319) (ci := 9) (C := RX9) (T := TX9) (N := 17) hx hb hts inX9 hown hK hP 0 rfl rfl 9 (by decide) fl29 (fun _ h9 => h9) rfl dX9_tellsApart_319 ?_
                  refine lv_iload (pc := 322) hx hb dX9_tellsApart_322 (lv_at hl 0 rfl) ?_
                  refine lv_aload_n (pc := 324) hx hb dX9_tellsApart_324 rfl (lv_at hl 2 rfl) ?_
                  refine va_get (pc := 325) (ci := 9) (C := RX9) (T := TX9) (N := 17) hx hb hts inX9 hown hK hP 0 rfl rfl 10 (by decide) fl32 (fun _ h9 => h9) rfl dX9_tellsApart_325 ?_
                  refine lv_bipush (v := (12 : Int32)) (pc := 328) hx hb dX9_tellsApart_328 (by decide) ?_
                  refine lv_iload (pc := 330) hx hb dX9_tellsApart_330 (lv_at hl 1 rfl) ?_
                  refine lv_imul (pc := 332) hx hb dX9_tellsApart_332 ?_
                  refine lv_iload (pc := 333) hx hb dX9_tellsApart_333 (lv_at hl 0 rfl) ?_
                  refine lv_iadd (pc := 335) hx hb dX9_tellsApart_335 ?_
                  obtain ⟨hg115, hz114⟩ := ogd_e hz114
                  refine va_zald (pc := 336) hx hb hK hP 3 1 rfl rfl hg115 dX9_tellsApart_336 ?_
                  obtain ⟨z0_20, hM117, hz114⟩ := ob1_e hz114
                  have jn117 : ∀ (H : Heap) (locs : List Loc) (ls : Array Slot), va_P D vwCl (wX9_tellsApart_a cI cZ cM cS mo mst mpa mim mik mbi mbk mnr mia min mas mpr mfa mme mse deeds sd ent st nr_20 ia_18 inw_16 asd) H → va_D A (wX9_tellsApart_a cI cZ cM cS mo mst mpa mim mik mbi mbk mnr mia min mas mpr mfa mme mse deeds sd ent st nr_20 ia_18 inw_16 asd) → va_S A s.heap H locs → lv_has ls 7 [(6, .int x6_12), (5, .int x5_14), (0, .ref mo), (1, .ref mas), (2, .int p2)] → W p l e (zRm 3 71) s m args below meth c H locs 0 0 Q (F0 m 352 ls [.int z0_20, .int x6_12, .ref mnr]) := by
                    intro H locs ls hP hD hS hl
                    obtain ⟨hg118, hz114⟩ := ogd_e hz114
                    refine va_iast (pc := 352) hx hb hK hP hD hS 2 0 rfl rfl hg118 dX9_tellsApart_352 (fun H locs hP hD hS => ?_)
                    have hP : va_P D vwCl (wX9_tellsApart_a cI cZ cM cS mo mst mpa mim mik mbi mbk mnr mia min mas mpr mfa mme mse deeds sd ent st (upd nr_20 (Int32.toNatClampNeg x6_12) z0_20) ia_18 inw_16 asd) H := hP
                    have hD : va_D A (wX9_tellsApart_a cI cZ cM cS mo mst mpa mim mik mbi mbk mnr mia min mas mpr mfa mme mse deeds sd ent st (upd nr_20 (Int32.toNatClampNeg x6_12) z0_20) ia_18 inw_16 asd) := hD
                    refine lv_iinc (v := (x6_12 + (1 : Int32))) (lv' := [(6, .int (x6_12 + (1 : Int32))), (5, .int x5_14), (0, .ref mo), (1, .ref mas), (2, .int p2)]) (pc := 353) hx hb dX9_tellsApart_353 hl (k := 0) rfl rfl (by decide) rfl (fun ls hl => ?_)
                    refine lv_goto (pc := 356) (tgt := 307) hx hb dX9_tellsApart_356 (by decide) ?_
                    exact ih _ _ _ _ _ (olp_l hz114 hL114) hP hD hS (lv_sub hl [0, 1, 2, 3, 4] rfl)
                  refine lv_if_eq (pc := 337) (tgt := 350) hx hb dX9_tellsApart_337 (by decide) (fun hc => ?_) (fun hc => ?_)
                  · have hM117 := oif_t hM117 hc
                    refine lv_iload (pc := 350) hx hb dX9_tellsApart_350 (lv_at hl 1 rfl) ?_
                    cases hM117
                    exact jn117 _ _ _ hP hD hS (lv_sub hl [0, 1, 2, 3, 4] rfl)
                  · have hM117 := oif_f hM117 hc
                    refine lv_aload_n (pc := 340) hx hb dX9_tellsApart_340 rfl (lv_at hl 2 rfl) ?_
                    refine va_get (pc := 341) (ci := 9) (C := RX9) (T := TX9) (N := 17) hx hb hts inX9 hown hK hP 0 rfl rfl 9 (by decide) fl29 (fun _ h9 => h9) rfl dX9_tellsApart_341 ?_
                    refine lv_iload (pc := 344) hx hb dX9_tellsApart_344 (lv_at hl 0 rfl) ?_
                    obtain ⟨hg119, hM117⟩ := ogd_e hM117
                    refine va_iald (pc := 346) hx hb hK hP 2 0 rfl rfl hg119 dX9_tellsApart_346 ?_
                    refine lv_goto (pc := 347) (tgt := 352) hx hb dX9_tellsApart_347 (by decide) ?_
                    cases hM117
                    exact jn117 _ _ _ hP hD hS (lv_sub hl [0, 1, 2, 3, 4] rfl)
            exact lp114 oFu _ _ _ _ _ hL114 hP hD hS (lv_sub hl [0, 1, 2, 3, 4] rfl)
      exact lp109 oFu _ _ _ _ _ hL109 hP hD hS (lv_sub hl [0, 1, 2, 3] rfl)
    have lp66 : ∀ (n : Nat) (x4_13 : Int32) (ia_17 : (Nat → Int32)) (inw_15 : (Nat → Int32)) (H : Heap) (locs : List Loc) (ls : Array Slot), olp (fX9_tellsApart_a_s118 st p2 p3 deeds sd ent) n (x4_13, ia_17, inw_15) = some (ia_18, inw_16) → va_P D vwCl (wX9_tellsApart_a cI cZ cM cS mo mst mpa mim mik mbi mbk mnr mia min mas mpr mfa mme mse deeds sd ent st nr ia_17 inw_15 asd) H → va_D A (wX9_tellsApart_a cI cZ cM cS mo mst mpa mim mik mbi mbk mnr mia min mas mpr mfa mme mse deeds sd ent st nr ia_17 inw_15 asd) → va_S A s.heap H locs → lv_has ls 7 [(4, .int x4_13), (0, .ref mo), (1, .ref mas), (2, .int p2), (3, .int p3)] → W p l e (zRm 3 71) s m args below meth c H locs 0 0 Q (F0 m 118 ls []) := by
      intro n
      induction n with
      | zero => intro x4_13 ia_17 inw_15 H locs ls hL; exact olp_0 hL
      | succ n ih =>
        intro x4_13 ia_17 inw_15 H locs ls hL66 hP hD hS hl
        obtain ⟨z, hz66, hL66⟩ := olp_e hL66
        have hz66 : fX9_tellsApart_a_b118 st p2 p3 deeds sd ent x4_13 ia_17 inw_15 = some z := hz66
        unfold fX9_tellsApart_a_b118 at hz66
        refine lv_iload (pc := 118) hx hb dX9_tellsApart_118 (lv_at hl 0 rfl) ?_
        refine lv_if_eq (pc := 120) (tgt := 289) hx hb dX9_tellsApart_120 (by decide) (fun hc => ?_) (fun hc => ?_)
        · have hz66 := oif_t hz66 hc
          have hE := olp_r hz66 hL66
          cases hE
          exact ex66 _ _ _ hP hD hS (lv_sub hl [1, 2, 3] rfl)
        · have hz66 := oif_f hz66 hc
          refine lv_iconst (v := (0 : Int32)) (pc := 123) hx hb dX9_tellsApart_123 (by decide) ?_
          refine lv_istore (lv' := [(4, .int (0 : Int32)), (0, .ref mo), (1, .ref mas), (2, .int p2), (3, .int p3)]) (pc := 124) hx hb dX9_tellsApart_124 hl (by decide) rfl (fun ls hl => ?_)
          refine lv_iconst (v := (0 : Int32)) (pc := 126) hx hb dX9_tellsApart_126 (by decide) ?_
          refine lv_istore (lv' := [(5, .int (0 : Int32)), (4, .int (0 : Int32)), (0, .ref mo), (1, .ref mas), (2, .int p2), (3, .int p3)]) (pc := 127) hx hb dX9_tellsApart_127 hl (by decide) rfl (fun ls hl => ?_)
          obtain ⟨x4_19, inw_22, hL80, hz66⟩ := ob2_e hz66
          have ex80 : ∀ (H : Heap) (locs : List Loc) (ls : Array Slot), va_P D vwCl (wX9_tellsApart_a cI cZ cM cS mo mst mpa mim mik mbi mbk mnr mia min mas mpr mfa mme mse deeds sd ent st nr ia_17 inw_22 asd) H → va_D A (wX9_tellsApart_a cI cZ cM cS mo mst mpa mim mik mbi mbk mnr mia min mas mpr mfa mme mse deeds sd ent st nr ia_17 inw_22 asd) → va_S A s.heap H locs → lv_has ls 7 [(4, .int x4_19), (0, .ref mo), (1, .ref mas), (2, .int p2), (3, .int p3)] → W p l e (zRm 3 71) s m args below meth c H locs 0 0 Q (F0 m 255 ls []) := by
            intro H locs ls hP hD hS hl
            refine lv_iconst (v := (0 : Int32)) (pc := 255) hx hb dX9_tellsApart_255 (by decide) ?_
            refine lv_istore (lv' := [(5, .int (0 : Int32)), (4, .int x4_19), (0, .ref mo), (1, .ref mas), (2, .int p2), (3, .int p3)]) (pc := 256) hx hb dX9_tellsApart_256 hl (by decide) rfl (fun ls hl => ?_)
            obtain ⟨ia_24, hL97, hz66⟩ := ob1_e hz66
            have ex97 : ∀ (H : Heap) (locs : List Loc) (ls : Array Slot), va_P D vwCl (wX9_tellsApart_a cI cZ cM cS mo mst mpa mim mik mbi mbk mnr mia min mas mpr mfa mme mse deeds sd ent st nr ia_24 inw_22 asd) H → va_D A (wX9_tellsApart_a cI cZ cM cS mo mst mpa mim mik mbi mbk mnr mia min mas mpr mfa mme mse deeds sd ent st nr ia_24 inw_22 asd) → va_S A s.heap H locs → lv_has ls 7 [(4, .int x4_19), (0, .ref mo), (1, .ref mas), (2, .int p2), (3, .int p3)] → W p l e (zRm 3 71) s m args below meth c H locs 0 0 Q (F0 m 286 ls []) := by
              intro H locs ls hP hD hS hl
              refine lv_goto (pc := 286) (tgt := 118) hx hb dX9_tellsApart_286 (by decide) ?_
              exact ih _ _ _ _ _ _ (olp_l hz66 hL66) hP hD hS (lv_sub hl [0, 1, 2, 3, 4] rfl)
            have lp97 : ∀ (n : Nat) (x5_12 : Int32) (ia_23 : (Nat → Int32)) (H : Heap) (locs : List Loc) (ls : Array Slot), olp (fX9_tellsApart_a_s258 inw_22) n (x5_12, ia_23) = some ia_24 → va_P D vwCl (wX9_tellsApart_a cI cZ cM cS mo mst mpa mim mik mbi mbk mnr mia min mas mpr mfa mme mse deeds sd ent st nr ia_23 inw_22 asd) H → va_D A (wX9_tellsApart_a cI cZ cM cS mo mst mpa mim mik mbi mbk mnr mia min mas mpr mfa mme mse deeds sd ent st nr ia_23 inw_22 asd) → va_S A s.heap H locs → lv_has ls 7 [(5, .int x5_12), (4, .int x4_19), (0, .ref mo), (1, .ref mas), (2, .int p2), (3, .int p3)] → W p l e (zRm 3 71) s m args below meth c H locs 0 0 Q (F0 m 258 ls []) := by
              intro n
              induction n with
              | zero => intro x5_12 ia_23 H locs ls hL; exact olp_0 hL
              | succ n ih =>
                intro x5_12 ia_23 H locs ls hL97 hP hD hS hl
                obtain ⟨z, hz97, hL97⟩ := olp_e hL97
                have hz97 : fX9_tellsApart_a_b258 inw_22 x5_12 ia_23 = some z := hz97
                unfold fX9_tellsApart_a_b258 at hz97
                refine lv_iload (pc := 258) hx hb dX9_tellsApart_258 (lv_at hl 0 rfl) ?_
                refine lv_sipush (v := (144 : Int32)) (pc := 260) hx hb dX9_tellsApart_260 (by decide) ?_
                refine lv_icmp_ge (pc := 263) (tgt := 286) hx hb dX9_tellsApart_263 (by decide) (fun hc => ?_) (fun hc => ?_)
                · have hz97 := oif_t hz97 hc
                  have hE := olp_r hz97 hL97
                  cases hE
                  exact ex97 _ _ _ hP hD hS (lv_sub hl [1, 2, 3, 4, 5] rfl)
                · have hz97 := oif_f hz97 hc
                  refine lv_aload_n (pc := 266) hx hb dX9_tellsApart_266 rfl (lv_at hl 2 rfl) ?_
                  refine va_get (pc := 267) (ci := 9) (C := RX9) (T := TX9) (N := 17) hx hb hts inX9 hown hK hP 0 rfl rfl 10 (by decide) fl32 (fun _ h9 => h9) rfl dX9_tellsApart_267 ?_
                  refine lv_iload (pc := 270) hx hb dX9_tellsApart_270 (lv_at hl 0 rfl) ?_
                  refine lv_aload_n (pc := 272) hx hb dX9_tellsApart_272 rfl (lv_at hl 2 rfl) ?_
                  refine va_get (pc := 273) (ci := 9) (C := RX9) (T := TX9) (N := 17) hx hb hts inX9 hown hK hP 0 rfl rfl 11 (by decide) fl35 (fun _ h9 => h9) rfl dX9_tellsApart_273 ?_
                  refine lv_iload (pc := 276) hx hb dX9_tellsApart_276 (lv_at hl 0 rfl) ?_
                  obtain ⟨hg98, hz97⟩ := ogd_e hz97
                  refine va_zald (pc := 278) hx hb hK hP 4 1 rfl rfl hg98 dX9_tellsApart_278 ?_
                  obtain ⟨hg99, hz97⟩ := ogd_e hz97
                  refine va_zast (pc := 279) hx hb hK hP hD hS 3 1 rfl rfl hg99 dX9_tellsApart_279 (fun H locs hP hD hS => ?_)
                  have hP : va_P D vwCl (wX9_tellsApart_a cI cZ cM cS mo mst mpa mim mik mbi mbk mnr mia min mas mpr mfa mme mse deeds sd ent st nr (upd ia_23 (Int32.toNatClampNeg x5_12) (vp_nar .boolean (inw_22 (Int32.toNatClampNeg x5_12)))) inw_22 asd) H := hP
                  have hD : va_D A (wX9_tellsApart_a cI cZ cM cS mo mst mpa mim mik mbi mbk mnr mia min mas mpr mfa mme mse deeds sd ent st nr (upd ia_23 (Int32.toNatClampNeg x5_12) (vp_nar .boolean (inw_22 (Int32.toNatClampNeg x5_12)))) inw_22 asd) := hD
                  refine lv_iinc (v := (x5_12 + (1 : Int32))) (lv' := [(5, .int (x5_12 + (1 : Int32))), (4, .int x4_19), (0, .ref mo), (1, .ref mas), (2, .int p2), (3, .int p3)]) (pc := 280) hx hb dX9_tellsApart_280 hl (k := 0) rfl rfl (by decide) rfl (fun ls hl => ?_)
                  refine lv_goto (pc := 283) (tgt := 258) hx hb dX9_tellsApart_283 (by decide) ?_
                  exact ih _ _ _ _ _ (olp_l hz97 hL97) hP hD hS (lv_sub hl [0, 1, 2, 3, 4, 5] rfl)
            exact lp97 oFu _ _ _ _ _ hL97 hP hD hS (lv_sub hl [0, 1, 2, 3, 4, 5] rfl)
          have lp80 : ∀ (n : Nat) (x5_10 : Int32) (x4_18 : Int32) (inw_21 : (Nat → Int32)) (H : Heap) (locs : List Loc) (ls : Array Slot), olp (fX9_tellsApart_a_s129 st ia_17 p2 p3 deeds sd ent) n (x5_10, x4_18, inw_21) = some (x4_19, inw_22) → va_P D vwCl (wX9_tellsApart_a cI cZ cM cS mo mst mpa mim mik mbi mbk mnr mia min mas mpr mfa mme mse deeds sd ent st nr ia_17 inw_21 asd) H → va_D A (wX9_tellsApart_a cI cZ cM cS mo mst mpa mim mik mbi mbk mnr mia min mas mpr mfa mme mse deeds sd ent st nr ia_17 inw_21 asd) → va_S A s.heap H locs → lv_has ls 7 [(5, .int x5_10), (4, .int x4_18), (0, .ref mo), (1, .ref mas), (2, .int p2), (3, .int p3)] → W p l e (zRm 3 71) s m args below meth c H locs 0 0 Q (F0 m 129 ls []) := by
            intro n
            induction n with
            | zero => intro x5_10 x4_18 inw_21 H locs ls hL; exact olp_0 hL
            | succ n ih =>
              intro x5_10 x4_18 inw_21 H locs ls hL80 hP hD hS hl
              obtain ⟨z, hz80, hL80⟩ := olp_e hL80
              have hz80 : fX9_tellsApart_a_b129 st ia_17 p2 p3 deeds sd ent x5_10 x4_18 inw_21 = some z := hz80
              unfold fX9_tellsApart_a_b129 at hz80
              refine lv_iload (pc := 129) hx hb dX9_tellsApart_129 (lv_at hl 0 rfl) ?_
              refine lv_aload_n (pc := 131) hx hb dX9_tellsApart_131 rfl (lv_at hl 2 rfl) ?_
              refine va_get (pc := 132) (ci := 9) (C := RX9) (T := TX9) (N := 17) hx hb hts inX9 hown hK hP 0 rfl rfl 0 (by decide) fl7 (fun _ h9 => h9) rfl dX9_tellsApart_132 ?_
              refine lv_iconst (v := (0 : Int32)) (pc := 135) hx hb dX9_tellsApart_135 (by decide) ?_
              refine z_iald (pc := 136) (k := 0) hx hb hK hP 1 0 rfl rfl (by decide) (by decide) dX9_tellsApart_136 ?_
              refine lv_icmp_ge (pc := 137) (tgt := 255) hx hb dX9_tellsApart_137 (by decide) (fun hc => ?_) (fun hc => ?_)
              · have hz80 := oif_t hz80 hc
                have hE := olp_r hz80 hL80
                cases hE
                exact ex80 _ _ _ hP hD hS (lv_sub hl [1, 2, 3, 4, 5] rfl)
              · have hz80 := oif_f hz80 hc
                refine lv_iconst (v := (0 : Int32)) (pc := 140) hx hb dX9_tellsApart_140 (by decide) ?_
                refine lv_istore (lv' := [(6, .int (0 : Int32)), (5, .int x5_10), (4, .int x4_18), (0, .ref mo), (1, .ref mas), (2, .int p2), (3, .int p3)]) (pc := 141) hx hb dX9_tellsApart_141 hl (by decide) rfl (fun ls hl => ?_)
                obtain ⟨x4_22, inw_25, hL87, hz80⟩ := ob2_e hz80
                have ex87 : ∀ (H : Heap) (locs : List Loc) (ls : Array Slot), va_P D vwCl (wX9_tellsApart_a cI cZ cM cS mo mst mpa mim mik mbi mbk mnr mia min mas mpr mfa mme mse deeds sd ent st nr ia_17 inw_25 asd) H → va_D A (wX9_tellsApart_a cI cZ cM cS mo mst mpa mim mik mbi mbk mnr mia min mas mpr mfa mme mse deeds sd ent st nr ia_17 inw_25 asd) → va_S A s.heap H locs → lv_has ls 7 [(5, .int x5_10), (4, .int x4_22), (0, .ref mo), (1, .ref mas), (2, .int p2), (3, .int p3)] → W p l e (zRm 3 71) s m args below meth c H locs 0 0 Q (F0 m 249 ls []) := by
                  intro H locs ls hP hD hS hl
                  refine lv_iinc (v := (x5_10 + (1 : Int32))) (lv' := [(5, .int (x5_10 + (1 : Int32))), (4, .int x4_22), (0, .ref mo), (1, .ref mas), (2, .int p2), (3, .int p3)]) (pc := 249) hx hb dX9_tellsApart_249 hl (k := 0) rfl rfl (by decide) rfl (fun ls hl => ?_)
                  refine lv_goto (pc := 252) (tgt := 129) hx hb dX9_tellsApart_252 (by decide) ?_
                  exact ih _ _ _ _ _ _ (olp_l hz80 hL80) hP hD hS (lv_sub hl [0, 1, 2, 3, 4, 5] rfl)
                have lp87 : ∀ (n : Nat) (x6_8 : Int32) (x4_21 : Int32) (inw_24 : (Nat → Int32)) (H : Heap) (locs : List Loc) (ls : Array Slot), olp (fX9_tellsApart_a_s143 st x5_10 ia_17 p2 p3 deeds sd ent) n (x6_8, x4_21, inw_24) = some (x4_22, inw_25) → va_P D vwCl (wX9_tellsApart_a cI cZ cM cS mo mst mpa mim mik mbi mbk mnr mia min mas mpr mfa mme mse deeds sd ent st nr ia_17 inw_24 asd) H → va_D A (wX9_tellsApart_a cI cZ cM cS mo mst mpa mim mik mbi mbk mnr mia min mas mpr mfa mme mse deeds sd ent st nr ia_17 inw_24 asd) → va_S A s.heap H locs → lv_has ls 7 [(6, .int x6_8), (5, .int x5_10), (4, .int x4_21), (0, .ref mo), (1, .ref mas), (2, .int p2), (3, .int p3)] → W p l e (zRm 3 71) s m args below meth c H locs 0 0 Q (F0 m 143 ls []) := by
                  intro n
                  induction n with
                  | zero => intro x6_8 x4_21 inw_24 H locs ls hL; exact olp_0 hL
                  | succ n ih =>
                    intro x6_8 x4_21 inw_24 H locs ls hL87 hP hD hS hl
                    obtain ⟨z, hz87, hL87⟩ := olp_e hL87
                    have hz87 : fX9_tellsApart_a_b143 st x5_10 ia_17 p2 p3 deeds sd ent x6_8 x4_21 inw_24 = some z := hz87
                    unfold fX9_tellsApart_a_b143 at hz87
                    refine lv_iload (pc := 143) hx hb dX9_tellsApart_143 (lv_at hl 0 rfl) ?_
                    refine lv_aload_n (pc := 145) hx hb dX9_tellsApart_145 rfl (lv_at hl 3 rfl) ?_
                    refine va_get (pc := 146) (ci := 9) (C := RX9) (T := TX9) (N := 17) hx hb hts inX9 hown hK hP 0 rfl rfl 0 (by decide) fl7 (fun _ h9 => h9) rfl dX9_tellsApart_146 ?_
                    refine lv_iconst (v := (0 : Int32)) (pc := 149) hx hb dX9_tellsApart_149 (by decide) ?_
                    refine z_iald (pc := 150) (k := 0) hx hb hK hP 1 0 rfl rfl (by decide) (by decide) dX9_tellsApart_150 ?_
                    refine lv_icmp_ge (pc := 151) (tgt := 249) hx hb dX9_tellsApart_151 (by decide) (fun hc => ?_) (fun hc => ?_)
                    · have hz87 := oif_t hz87 hc
                      have hE := olp_r hz87 hL87
                      cases hE
                      exact ex87 _ _ _ hP hD hS (lv_sub hl [1, 2, 3, 4, 5, 6] rfl)
                    · have hz87 := oif_f hz87 hc
                      refine lv_aload_n (pc := 154) hx hb dX9_tellsApart_154 rfl (lv_at hl 3 rfl) ?_
                      refine va_get (pc := 155) (ci := 9) (C := RX9) (T := TX9) (N := 17) hx hb hts inX9 hown hK hP 0 rfl rfl 11 (by decide) fl35 (fun _ h9 => h9) rfl dX9_tellsApart_155 ?_
                      refine lv_bipush (v := (12 : Int32)) (pc := 158) hx hb dX9_tellsApart_158 (by decide) ?_
                      refine lv_iload (pc := 160) hx hb dX9_tellsApart_160 (lv_at hl 1 rfl) ?_
                      refine lv_imul (pc := 162) hx hb dX9_tellsApart_162 ?_
                      refine lv_iload (pc := 163) hx hb dX9_tellsApart_163 (lv_at hl 0 rfl) ?_
                      refine lv_iadd (pc := 165) hx hb dX9_tellsApart_165 ?_
                      refine lv_aload_n (pc := 166) hx hb dX9_tellsApart_166 rfl (lv_at hl 3 rfl) ?_
                      refine va_get (pc := 167) (ci := 9) (C := RX9) (T := TX9) (N := 17) hx hb hts inX9 hown hK hP 0 rfl rfl 10 (by decide) fl32 (fun _ h9 => h9) rfl dX9_tellsApart_167 ?_
                      refine lv_bipush (v := (12 : Int32)) (pc := 170) hx hb dX9_tellsApart_170 (by decide) ?_
                      refine lv_iload (pc := 172) hx hb dX9_tellsApart_172 (lv_at hl 1 rfl) ?_
                      refine lv_imul (pc := 174) hx hb dX9_tellsApart_174 ?_
                      refine lv_iload (pc := 175) hx hb dX9_tellsApart_175 (lv_at hl 0 rfl) ?_
                      refine lv_iadd (pc := 177) hx hb dX9_tellsApart_177 ?_
                      obtain ⟨hg88, hz87⟩ := ogd_e hz87
                      refine va_zald (pc := 178) hx hb hK hP 3 1 rfl rfl hg88 dX9_tellsApart_178 ?_
                      obtain ⟨z0_16, hM90, hz87⟩ := ob1_e hz87
                      have jn90 : ∀ (H : Heap) (locs : List Loc) (ls : Array Slot), va_P D vwCl (wX9_tellsApart_a cI cZ cM cS mo mst mpa mim mik mbi mbk mnr mia min mas mpr mfa mme mse deeds sd ent st nr ia_17 inw_24 asd) H → va_D A (wX9_tellsApart_a cI cZ cM cS mo mst mpa mim mik mbi mbk mnr mia min mas mpr mfa mme mse deeds sd ent st nr ia_17 inw_24 asd) → va_S A s.heap H locs → lv_has ls 7 [(6, .int x6_8), (5, .int x5_10), (4, .int x4_21), (0, .ref mo), (1, .ref mas), (2, .int p2), (3, .int p3)] → W p l e (zRm 3 71) s m args below meth c H locs 0 0 Q (F0 m 201 ls [.int z0_16, .int (((12 : Int32) * x5_10) + x6_8), .ref min]) := by
                        intro H locs ls hP hD hS hl
                        obtain ⟨hg91, hz87⟩ := ogd_e hz87
                        refine va_zast (pc := 201) hx hb hK hP hD hS 4 1 rfl rfl hg91 dX9_tellsApart_201 (fun H locs hP hD hS => ?_)
                        have hP : va_P D vwCl (wX9_tellsApart_a cI cZ cM cS mo mst mpa mim mik mbi mbk mnr mia min mas mpr mfa mme mse deeds sd ent st nr ia_17 (upd inw_24 (Int32.toNatClampNeg (((12 : Int32) * x5_10) + x6_8)) (vp_nar .boolean z0_16)) asd) H := hP
                        have hD : va_D A (wX9_tellsApart_a cI cZ cM cS mo mst mpa mim mik mbi mbk mnr mia min mas mpr mfa mme mse deeds sd ent st nr ia_17 (upd inw_24 (Int32.toNatClampNeg (((12 : Int32) * x5_10) + x6_8)) (vp_nar .boolean z0_16)) asd) := hD
                        refine lv_iload (pc := 202) hx hb dX9_tellsApart_202 (lv_at hl 2 rfl) ?_
                        refine lv_if_ne (pc := 204) (tgt := 236) hx hb dX9_tellsApart_204 (by decide) (fun hc => ?_) (fun hc => ?_)
                        · have hz87 := oif_f hz87 hc
                          refine lv_iconst (v := (1 : Int32)) (pc := 236) hx hb dX9_tellsApart_236 (by decide) ?_
                          refine lv_goto (pc := 237) (tgt := 241) hx hb dX9_tellsApart_237 (by decide) ?_
                          refine lv_istore (lv' := [(4, .int (1 : Int32)), (6, .int x6_8), (5, .int x5_10), (0, .ref mo), (1, .ref mas), (2, .int p2), (3, .int p3)]) (pc := 241) hx hb dX9_tellsApart_241 hl (by decide) rfl (fun ls hl => ?_)
                          refine lv_iinc (v := (x6_8 + (1 : Int32))) (lv' := [(6, .int (x6_8 + (1 : Int32))), (4, .int (1 : Int32)), (5, .int x5_10), (0, .ref mo), (1, .ref mas), (2, .int p2), (3, .int p3)]) (pc := 243) hx hb dX9_tellsApart_243 hl (k := 1) rfl rfl (by decide) rfl (fun ls hl => ?_)
                          refine lv_goto (pc := 246) (tgt := 143) hx hb dX9_tellsApart_246 (by decide) ?_
                          exact ih _ _ _ _ _ _ (olp_l hz87 hL87) hP hD hS (lv_sub hl [0, 2, 1, 3, 4, 5, 6] rfl)
                        · have hz87 := oif_t hz87 hc
                          refine lv_aload_n (pc := 207) hx hb dX9_tellsApart_207 rfl (lv_at hl 3 rfl) ?_
                          refine va_get (pc := 208) (ci := 9) (C := RX9) (T := TX9) (N := 17) hx hb hts inX9 hown hK hP 0 rfl rfl 11 (by decide) fl35 (fun _ h9 => h9) rfl dX9_tellsApart_208 ?_
                          refine lv_bipush (v := (12 : Int32)) (pc := 211) hx hb dX9_tellsApart_211 (by decide) ?_
                          refine lv_iload (pc := 213) hx hb dX9_tellsApart_213 (lv_at hl 1 rfl) ?_
                          refine lv_imul (pc := 215) hx hb dX9_tellsApart_215 ?_
                          refine lv_iload (pc := 216) hx hb dX9_tellsApart_216 (lv_at hl 0 rfl) ?_
                          refine lv_iadd (pc := 218) hx hb dX9_tellsApart_218 ?_
                          obtain ⟨hg92, hz87⟩ := ogd_e hz87
                          refine va_zald (pc := 219) hx hb hK hP 4 1 rfl rfl hg92 dX9_tellsApart_219 ?_
                          refine lv_aload_n (pc := 220) hx hb dX9_tellsApart_220 rfl (lv_at hl 3 rfl) ?_
                          refine va_get (pc := 221) (ci := 9) (C := RX9) (T := TX9) (N := 17) hx hb hts inX9 hown hK hP 0 rfl rfl 10 (by decide) fl32 (fun _ h9 => h9) rfl dX9_tellsApart_221 ?_
                          refine lv_bipush (v := (12 : Int32)) (pc := 224) hx hb dX9_tellsApart_224 (by decide) ?_
                          refine lv_iload (pc := 226) hx hb dX9_tellsApart_226 (lv_at hl 1 rfl) ?_
                          refine lv_imul (pc := 228) hx hb dX9_tellsApart_228 ?_
                          refine lv_iload (pc := 229) hx hb dX9_tellsApart_229 (lv_at hl 0 rfl) ?_
                          refine lv_iadd (pc := 231) hx hb dX9_tellsApart_231 ?_
                          obtain ⟨hg93, hz87⟩ := ogd_e hz87
                          refine va_zald (pc := 232) hx hb hK hP 3 1 rfl rfl hg93 dX9_tellsApart_232 ?_
                          refine lv_icmp_eq (pc := 233) (tgt := 240) hx hb dX9_tellsApart_233 (by decide) (fun hc => ?_) (fun hc => ?_)
                          · have hz87 := oif_t hz87 hc
                            refine lv_iconst (v := (0 : Int32)) (pc := 240) hx hb dX9_tellsApart_240 (by decide) ?_
                            refine lv_istore (lv' := [(4, .int (0 : Int32)), (6, .int x6_8), (5, .int x5_10), (0, .ref mo), (1, .ref mas), (2, .int p2), (3, .int p3)]) (pc := 241) hx hb dX9_tellsApart_241 hl (by decide) rfl (fun ls hl => ?_)
                            refine lv_iinc (v := (x6_8 + (1 : Int32))) (lv' := [(6, .int (x6_8 + (1 : Int32))), (4, .int (0 : Int32)), (5, .int x5_10), (0, .ref mo), (1, .ref mas), (2, .int p2), (3, .int p3)]) (pc := 243) hx hb dX9_tellsApart_243 hl (k := 1) rfl rfl (by decide) rfl (fun ls hl => ?_)
                            refine lv_goto (pc := 246) (tgt := 143) hx hb dX9_tellsApart_246 (by decide) ?_
                            exact ih _ _ _ _ _ _ (olp_l hz87 hL87) hP hD hS (lv_sub hl [0, 2, 1, 3, 4, 5, 6] rfl)
                          · have hz87 := oif_f hz87 hc
                            refine lv_iconst (v := (1 : Int32)) (pc := 236) hx hb dX9_tellsApart_236 (by decide) ?_
                            refine lv_goto (pc := 237) (tgt := 241) hx hb dX9_tellsApart_237 (by decide) ?_
                            refine lv_istore (lv' := [(4, .int (1 : Int32)), (6, .int x6_8), (5, .int x5_10), (0, .ref mo), (1, .ref mas), (2, .int p2), (3, .int p3)]) (pc := 241) hx hb dX9_tellsApart_241 hl (by decide) rfl (fun ls hl => ?_)
                            refine lv_iinc (v := (x6_8 + (1 : Int32))) (lv' := [(6, .int (x6_8 + (1 : Int32))), (4, .int (1 : Int32)), (5, .int x5_10), (0, .ref mo), (1, .ref mas), (2, .int p2), (3, .int p3)]) (pc := 243) hx hb dX9_tellsApart_243 hl (k := 1) rfl rfl (by decide) rfl (fun ls hl => ?_)
                            refine lv_goto (pc := 246) (tgt := 143) hx hb dX9_tellsApart_246 (by decide) ?_
                            exact ih _ _ _ _ _ _ (olp_l hz87 hL87) hP hD hS (lv_sub hl [0, 2, 1, 3, 4, 5, 6] rfl)
                      refine lv_if_ne (pc := 179) (tgt := 196) hx hb dX9_tellsApart_179 (by decide) (fun hc => ?_) (fun hc => ?_)
                      · have hM90 := oif_f hM90 hc
                        refine lv_iconst (v := (1 : Int32)) (pc := 196) hx hb dX9_tellsApart_196 (by decide) ?_
                        refine lv_goto (pc := 197) (tgt := 201) hx hb dX9_tellsApart_197 (by decide) ?_
                        cases hM90
                        exact jn90 _ _ _ hP hD hS (lv_sub hl [0, 1, 2, 3, 4, 5, 6] rfl)
                      · have hM90 := oif_t hM90 hc
                        refine lv_aload_n (pc := 182) hx hb dX9_tellsApart_182 rfl (lv_at hl 3 rfl) ?_
                        refine lv_aload_n (pc := 183) hx hb dX9_tellsApart_183 rfl (lv_at hl 4 rfl) ?_
                        refine lv_iload_n (pc := 184) hx hb dX9_tellsApart_184 rfl (lv_at hl 5 rfl) ?_
                        refine lv_iload_n (pc := 185) hx hb dX9_tellsApart_185 rfl (lv_at hl 6 rfl) ?_
                        refine lv_iload (pc := 186) hx hb dX9_tellsApart_186 (lv_at hl 1 rfl) ?_
                        refine lv_iload (pc := 188) hx hb dX9_tellsApart_188 (lv_at hl 0 rfl) ?_
                        obtain ⟨r_19, hC94, hM90⟩ := ob1_e hM90
                        refine zVr (pc := 190) (As := [.ref mas, .int p2, .int p3, .int x5_10, .int x6_8]) (rest := [.int (((12 : Int32) * x5_10) + x6_8), .ref min]) E (tX9_isOneMore l D cI cZ cM cS mo mst mpa mim mik mbi mbk mnr mia min mas mpr mfa mme mse mas deeds sd ent st ia_17 p2 p3 x5_10 x6_8 hC94) 5 gX9_tellsApart_X9_isOneMore rfl rfl rfl (by decide +kernel) ⟨Nat.le_of_ble_eq_true rfl, Nat.le_of_ble_eq_true rfl⟩ hK hP [0, 1, 3] rfl 0 9 rfl rfl rfl rfl hl.1 rfl (Nat.le_of_ble_eq_true rfl) dX9_tellsApart_190 ⟨Nat.zero_le _, Nat.zero_le _⟩ ?_
                        refine lv_if_eq (pc := 193) (tgt := 200) hx hb dX9_tellsApart_193 (by decide) (fun hc => ?_) (fun hc => ?_)
                        · have hM90 := oif_t hM90 hc
                          refine lv_iconst (v := (0 : Int32)) (pc := 200) hx hb dX9_tellsApart_200 (by decide) ?_
                          cases hM90
                          exact jn90 _ _ _ hP hD hS (lv_sub hl [0, 1, 2, 3, 4, 5, 6] rfl)
                        · have hM90 := oif_f hM90 hc
                          refine lv_iconst (v := (1 : Int32)) (pc := 196) hx hb dX9_tellsApart_196 (by decide) ?_
                          refine lv_goto (pc := 197) (tgt := 201) hx hb dX9_tellsApart_197 (by decide) ?_
                          cases hM90
                          exact jn90 _ _ _ hP hD hS (lv_sub hl [0, 1, 2, 3, 4, 5, 6] rfl)
                exact lp87 oFu _ _ _ _ _ _ hL87 hP hD hS (lv_sub hl [0, 1, 2, 3, 4, 5, 6] rfl)
          exact lp80 oFu _ _ _ _ _ _ hL80 hP hD hS (lv_sub hl [0, 1, 2, 3, 4, 5] rfl)
    exact lp66 oFu _ _ _ _ _ _ hL66 hP hD hS (lv_sub hl [0, 1, 2, 3, 4] rfl)
  have lp16 : ∀ (n : Nat) (x4_2 : Int32) (ia_5 : (Nat → Int32)) (H : Heap) (locs : List Loc) (ls : Array Slot), olp (fX9_tellsApart_a_s3 st p3 p2 asd) n (x4_2, ia_5) = some ia_6 → va_P D vwCl (wX9_tellsApart_a cI cZ cM cS mo mst mpa mim mik mbi mbk mnr mia min mas mpr mfa mme mse deeds sd ent st nr ia_5 inw asd) H → va_D A (wX9_tellsApart_a cI cZ cM cS mo mst mpa mim mik mbi mbk mnr mia min mas mpr mfa mme mse deeds sd ent st nr ia_5 inw asd) → va_S A s.heap H locs → lv_has ls 7 [(4, .int x4_2), (0, .ref mo), (1, .ref mas), (2, .int p2), (3, .int p3)] → W p l e (zRm 3 71) s m args below meth c H locs 0 0 Q (F0 m 3 ls []) := by
    intro n
    induction n with
    | zero => intro x4_2 ia_5 H locs ls hL; exact olp_0 hL
    | succ n ih =>
      intro x4_2 ia_5 H locs ls hL16 hP hD hS hl
      obtain ⟨z, hz16, hL16⟩ := olp_e hL16
      have hz16 : fX9_tellsApart_a_b3 st p3 p2 asd x4_2 ia_5 = some z := hz16
      unfold fX9_tellsApart_a_b3 at hz16
      refine lv_iload (pc := 3) hx hb dX9_tellsApart_3 (lv_at hl 0 rfl) ?_
      refine lv_aload_n (pc := 5) hx hb dX9_tellsApart_5 rfl (lv_at hl 1 rfl) ?_
      refine va_get (pc := 6) (ci := 9) (C := RX9) (T := TX9) (N := 17) hx hb hts inX9 hown hK hP 0 rfl rfl 0 (by decide) fl7 (fun _ h9 => h9) rfl dX9_tellsApart_6 ?_
      refine lv_iconst (v := (0 : Int32)) (pc := 9) hx hb dX9_tellsApart_9 (by decide) ?_
      refine z_iald (pc := 10) (k := 0) hx hb hK hP 1 0 rfl rfl (by decide) (by decide) dX9_tellsApart_10 ?_
      refine lv_icmp_ge (pc := 11) (tgt := 115) hx hb dX9_tellsApart_11 (by decide) (fun hc => ?_) (fun hc => ?_)
      · have hz16 := oif_t hz16 hc
        have hE := olp_r hz16 hL16
        cases hE
        exact ex16 _ _ _ hP hD hS (lv_sub hl [1, 2, 3, 4] rfl)
      · have hz16 := oif_f hz16 hc
        refine lv_iconst (v := (0 : Int32)) (pc := 14) hx hb dX9_tellsApart_14 (by decide) ?_
        refine lv_istore (lv' := [(5, .int (0 : Int32)), (4, .int x4_2), (0, .ref mo), (1, .ref mas), (2, .int p2), (3, .int p3)]) (pc := 15) hx hb dX9_tellsApart_15 hl (by decide) rfl (fun ls hl => ?_)
        obtain ⟨ia_9, hL24, hz16⟩ := ob1_e hz16
        have ex24 : ∀ (H : Heap) (locs : List Loc) (ls : Array Slot), va_P D vwCl (wX9_tellsApart_a cI cZ cM cS mo mst mpa mim mik mbi mbk mnr mia min mas mpr mfa mme mse deeds sd ent st nr ia_9 inw asd) H → va_D A (wX9_tellsApart_a cI cZ cM cS mo mst mpa mim mik mbi mbk mnr mia min mas mpr mfa mme mse deeds sd ent st nr ia_9 inw asd) → va_S A s.heap H locs → lv_has ls 7 [(4, .int x4_2), (0, .ref mo), (1, .ref mas), (2, .int p2), (3, .int p3)] → W p l e (zRm 3 71) s m args below meth c H locs 0 0 Q (F0 m 109 ls []) := by
          intro H locs ls hP hD hS hl
          refine lv_iinc (v := (x4_2 + (1 : Int32))) (lv' := [(4, .int (x4_2 + (1 : Int32))), (0, .ref mo), (1, .ref mas), (2, .int p2), (3, .int p3)]) (pc := 109) hx hb dX9_tellsApart_109 hl (k := 0) rfl rfl (by decide) rfl (fun ls hl => ?_)
          refine lv_goto (pc := 112) (tgt := 3) hx hb dX9_tellsApart_112 (by decide) ?_
          exact ih _ _ _ _ _ (olp_l hz16 hL16) hP hD hS (lv_sub hl [0, 1, 2, 3, 4] rfl)
        have lp24 : ∀ (n : Nat) (x5_4 : Int32) (ia_8 : (Nat → Int32)) (H : Heap) (locs : List Loc) (ls : Array Slot), olp (fX9_tellsApart_a_s17 st p3 x4_2 p2 asd) n (x5_4, ia_8) = some ia_9 → va_P D vwCl (wX9_tellsApart_a cI cZ cM cS mo mst mpa mim mik mbi mbk mnr mia min mas mpr mfa mme mse deeds sd ent st nr ia_8 inw asd) H → va_D A (wX9_tellsApart_a cI cZ cM cS mo mst mpa mim mik mbi mbk mnr mia min mas mpr mfa mme mse deeds sd ent st nr ia_8 inw asd) → va_S A s.heap H locs → lv_has ls 7 [(5, .int x5_4), (4, .int x4_2), (0, .ref mo), (1, .ref mas), (2, .int p2), (3, .int p3)] → W p l e (zRm 3 71) s m args below meth c H locs 0 0 Q (F0 m 17 ls []) := by
          intro n
          induction n with
          | zero => intro x5_4 ia_8 H locs ls hL; exact olp_0 hL
          | succ n ih =>
            intro x5_4 ia_8 H locs ls hL24 hP hD hS hl
            obtain ⟨z, hz24, hL24⟩ := olp_e hL24
            have hz24 : fX9_tellsApart_a_b17 st p3 x4_2 p2 asd x5_4 ia_8 = some z := hz24
            unfold fX9_tellsApart_a_b17 at hz24
            refine lv_iload (pc := 17) hx hb dX9_tellsApart_17 (lv_at hl 0 rfl) ?_
            refine lv_aload_n (pc := 19) hx hb dX9_tellsApart_19 rfl (lv_at hl 2 rfl) ?_
            refine va_get (pc := 20) (ci := 9) (C := RX9) (T := TX9) (N := 17) hx hb hts inX9 hown hK hP 0 rfl rfl 0 (by decide) fl7 (fun _ h9 => h9) rfl dX9_tellsApart_20 ?_
            refine lv_iconst (v := (0 : Int32)) (pc := 23) hx hb dX9_tellsApart_23 (by decide) ?_
            refine z_iald (pc := 24) (k := 0) hx hb hK hP 1 0 rfl rfl (by decide) (by decide) dX9_tellsApart_24 ?_
            refine lv_icmp_ge (pc := 25) (tgt := 109) hx hb dX9_tellsApart_25 (by decide) (fun hc => ?_) (fun hc => ?_)
            · have hz24 := oif_t hz24 hc
              have hE := olp_r hz24 hL24
              cases hE
              exact ex24 _ _ _ hP hD hS (lv_sub hl [1, 2, 3, 4, 5] rfl)
            · have hz24 := oif_f hz24 hc
              refine lv_iload_n (pc := 28) hx hb dX9_tellsApart_28 rfl (lv_at hl 5 rfl) ?_
              refine lv_iconst (v := (3 : Int32)) (pc := 29) hx hb dX9_tellsApart_29 (by decide) ?_
              obtain ⟨z0_7, hM27, hz24⟩ := ob1_e hz24
              have jn27 : ∀ (H : Heap) (locs : List Loc) (ls : Array Slot), va_P D vwCl (wX9_tellsApart_a cI cZ cM cS mo mst mpa mim mik mbi mbk mnr mia min mas mpr mfa mme mse deeds sd ent st nr ia_8 inw asd) H → va_D A (wX9_tellsApart_a cI cZ cM cS mo mst mpa mim mik mbi mbk mnr mia min mas mpr mfa mme mse deeds sd ent st nr ia_8 inw asd) → va_S A s.heap H locs → lv_has ls 7 [(5, .int x5_4), (4, .int x4_2), (0, .ref mo), (1, .ref mas), (2, .int p2), (3, .int p3)] → W p l e (zRm 3 71) s m args below meth c H locs 0 0 Q (F0 m 63 ls [.int z0_7]) := by
                intro H locs ls hP hD hS hl
                refine lv_istore (lv' := [(6, .int z0_7), (5, .int x5_4), (4, .int x4_2), (0, .ref mo), (1, .ref mas), (2, .int p2), (3, .int p3)]) (pc := 63) hx hb dX9_tellsApart_63 hl (by decide) rfl (fun ls hl => ?_)
                refine lv_aload_n (pc := 65) hx hb dX9_tellsApart_65 rfl (lv_at hl 3 rfl) ?_
                refine va_get (pc := 66) (ci := 9) (C := RX9) (T := TX9) (N := 17) hx hb hts inX9 hown hK hP 0 rfl rfl 10 (by decide) fl32 (fun _ h9 => h9) rfl dX9_tellsApart_66 ?_
                refine lv_bipush (v := (12 : Int32)) (pc := 69) hx hb dX9_tellsApart_69 (by decide) ?_
                refine lv_iload (pc := 71) hx hb dX9_tellsApart_71 (lv_at hl 2 rfl) ?_
                refine lv_imul (pc := 73) hx hb dX9_tellsApart_73 ?_
                refine lv_iload (pc := 74) hx hb dX9_tellsApart_74 (lv_at hl 1 rfl) ?_
                refine lv_iadd (pc := 76) hx hb dX9_tellsApart_76 ?_
                refine lv_aload_n (pc := 77) hx hb dX9_tellsApart_77 rfl (lv_at hl 4 rfl) ?_
                refine lv_iload_n (pc := 78) hx hb dX9_tellsApart_78 rfl (lv_at hl 5 rfl) ?_
                refine lv_iload (pc := 79) hx hb dX9_tellsApart_79 (lv_at hl 2 rfl) ?_
                refine lv_iadd (pc := 81) hx hb dX9_tellsApart_81 ?_
                obtain ⟨hg28, hz24⟩ := ogd_e hz24
                refine va_iald (pc := 82) hx hb hK hP 5 0 rfl rfl hg28 dX9_tellsApart_82 ?_
                refine lv_aload_n (pc := 83) hx hb dX9_tellsApart_83 rfl (lv_at hl 4 rfl) ?_
                refine lv_iload_n (pc := 84) hx hb dX9_tellsApart_84 rfl (lv_at hl 5 rfl) ?_
                refine lv_iload (pc := 85) hx hb dX9_tellsApart_85 (lv_at hl 1 rfl) ?_
                refine lv_iadd (pc := 87) hx hb dX9_tellsApart_87 ?_
                obtain ⟨hg29, hz24⟩ := ogd_e hz24
                refine va_iald (pc := 88) hx hb hK hP 5 0 rfl rfl hg29 dX9_tellsApart_88 ?_
                obtain ⟨z0_8, hM30, hz24⟩ := ob1_e hz24
                have jn30 : ∀ (H : Heap) (locs : List Loc) (ls : Array Slot), va_P D vwCl (wX9_tellsApart_a cI cZ cM cS mo mst mpa mim mik mbi mbk mnr mia min mas mpr mfa mme mse deeds sd ent st nr ia_8 inw asd) H → va_D A (wX9_tellsApart_a cI cZ cM cS mo mst mpa mim mik mbi mbk mnr mia min mas mpr mfa mme mse deeds sd ent st nr ia_8 inw asd) → va_S A s.heap H locs → lv_has ls 7 [(5, .int x5_4), (4, .int x4_2), (0, .ref mo), (1, .ref mas), (2, .int p2), (3, .int p3)] → W p l e (zRm 3 71) s m args below meth c H locs 0 0 Q (F0 m 102 ls [.int z0_8, .int (((12 : Int32) * x4_2) + x5_4), .ref mia]) := by
                  intro H locs ls hP hD hS hl
                  obtain ⟨hg31, hz24⟩ := ogd_e hz24
                  refine va_zast (pc := 102) hx hb hK hP hD hS 3 1 rfl rfl hg31 dX9_tellsApart_102 (fun H locs hP hD hS => ?_)
                  have hP : va_P D vwCl (wX9_tellsApart_a cI cZ cM cS mo mst mpa mim mik mbi mbk mnr mia min mas mpr mfa mme mse deeds sd ent st nr (upd ia_8 (Int32.toNatClampNeg (((12 : Int32) * x4_2) + x5_4)) (vp_nar .boolean z0_8)) inw asd) H := hP
                  have hD : va_D A (wX9_tellsApart_a cI cZ cM cS mo mst mpa mim mik mbi mbk mnr mia min mas mpr mfa mme mse deeds sd ent st nr (upd ia_8 (Int32.toNatClampNeg (((12 : Int32) * x4_2) + x5_4)) (vp_nar .boolean z0_8)) inw asd) := hD
                  refine lv_iinc (v := (x5_4 + (1 : Int32))) (lv' := [(5, .int (x5_4 + (1 : Int32))), (4, .int x4_2), (0, .ref mo), (1, .ref mas), (2, .int p2), (3, .int p3)]) (pc := 103) hx hb dX9_tellsApart_103 hl (k := 0) rfl rfl (by decide) rfl (fun ls hl => ?_)
                  refine lv_goto (pc := 106) (tgt := 17) hx hb dX9_tellsApart_106 (by decide) ?_
                  exact ih _ _ _ _ _ (olp_l hz24 hL24) hP hD hS (lv_sub hl [0, 1, 2, 3, 4, 5] rfl)
                refine lv_icmp_ne (pc := 89) (tgt := 97) hx hb dX9_tellsApart_89 (by decide) (fun hc => ?_) (fun hc => ?_)
                · have hM30 := oif_f hM30 hc
                  refine lv_iconst (v := (1 : Int32)) (pc := 97) hx hb dX9_tellsApart_97 (by decide) ?_
                  refine lv_goto (pc := 98) (tgt := 102) hx hb dX9_tellsApart_98 (by decide) ?_
                  cases hM30
                  exact jn30 _ _ _ hP hD hS (lv_sub hl [1, 2, 3, 4, 5, 6] rfl)
                · have hM30 := oif_t hM30 hc
                  refine lv_iload (pc := 92) hx hb dX9_tellsApart_92 (lv_at hl 0 rfl) ?_
                  refine lv_if_eq (pc := 94) (tgt := 101) hx hb dX9_tellsApart_94 (by decide) (fun hc => ?_) (fun hc => ?_)
                  · have hM30 := oif_t hM30 hc
                    refine lv_iconst (v := (0 : Int32)) (pc := 101) hx hb dX9_tellsApart_101 (by decide) ?_
                    cases hM30
                    exact jn30 _ _ _ hP hD hS (lv_sub hl [1, 2, 3, 4, 5, 6] rfl)
                  · have hM30 := oif_f hM30 hc
                    refine lv_iconst (v := (1 : Int32)) (pc := 97) hx hb dX9_tellsApart_97 (by decide) ?_
                    refine lv_goto (pc := 98) (tgt := 102) hx hb dX9_tellsApart_98 (by decide) ?_
                    cases hM30
                    exact jn30 _ _ _ hP hD hS (lv_sub hl [1, 2, 3, 4, 5, 6] rfl)
              refine lv_icmp_ne (pc := 30) (tgt := 62) hx hb dX9_tellsApart_30 (by decide) (fun hc => ?_) (fun hc => ?_)
              · have hM27 := oif_f hM27 hc
                refine lv_iconst (v := (0 : Int32)) (pc := 62) hx hb dX9_tellsApart_62 (by decide) ?_
                cases hM27
                exact jn27 _ _ _ hP hD hS (lv_sub hl [0, 1, 2, 3, 4, 5] rfl)
              · have hM27 := oif_t hM27 hc
                refine lv_aload_n (pc := 33) hx hb dX9_tellsApart_33 rfl (lv_at hl 2 rfl) ?_
                refine va_get (pc := 34) (ci := 9) (C := RX9) (T := TX9) (N := 17) hx hb hts inX9 hown hK hP 0 rfl rfl 0 (by decide) fl7 (fun _ h9 => h9) rfl dX9_tellsApart_34 ?_
                refine lv_iconst (v := (2 : Int32)) (pc := 37) hx hb dX9_tellsApart_37 (by decide) ?_
                refine z_iald (pc := 38) (k := 2) hx hb hK hP 1 0 rfl rfl (by decide) (by decide) dX9_tellsApart_38 ?_
                refine lv_iload (pc := 39) hx hb dX9_tellsApart_39 (lv_at hl 1 rfl) ?_
                obtain ⟨r_9, hC32, hM27⟩ := ob1_e hM27
                refine zSr (pc := 41) (As := [.int (st 2), .int x4_2]) (rest := []) E (tX9_has l D cI cZ cM cS (st 2) x4_2 hC32) 2 gX9_tellsApart_X9_has rfl rfl rfl (by decide +kernel) ⟨Nat.le_of_ble_eq_true rfl, Nat.le_of_ble_eq_true rfl⟩ hK hP [] rfl rfl hl.1 rfl (Nat.le_of_ble_eq_true rfl) dX9_tellsApart_41 ⟨Nat.zero_le _, Nat.zero_le _⟩ ?_
                refine lv_aload_n (pc := 44) hx hb dX9_tellsApart_44 rfl (lv_at hl 2 rfl) ?_
                refine va_get (pc := 45) (ci := 9) (C := RX9) (T := TX9) (N := 17) hx hb hts inX9 hown hK hP 0 rfl rfl 0 (by decide) fl7 (fun _ h9 => h9) rfl dX9_tellsApart_45 ?_
                refine lv_iconst (v := (2 : Int32)) (pc := 48) hx hb dX9_tellsApart_48 (by decide) ?_
                refine z_iald (pc := 49) (k := 2) hx hb hK hP 1 0 rfl rfl (by decide) (by decide) dX9_tellsApart_49 ?_
                refine lv_iload (pc := 50) hx hb dX9_tellsApart_50 (lv_at hl 0 rfl) ?_
                obtain ⟨r_10, hC33, hM27⟩ := ob1_e hM27
                refine zSr (pc := 52) (As := [.int (st 2), .int x5_4]) (rest := [.int r_9]) E (tX9_has l D cI cZ cM cS (st 2) x5_4 hC33) 2 gX9_tellsApart_X9_has rfl rfl rfl (by decide +kernel) ⟨Nat.le_of_ble_eq_true rfl, Nat.le_of_ble_eq_true rfl⟩ hK hP [] rfl rfl hl.1 rfl (Nat.le_of_ble_eq_true rfl) dX9_tellsApart_52 ⟨Nat.zero_le _, Nat.zero_le _⟩ ?_
                refine lv_icmp_eq (pc := 55) (tgt := 62) hx hb dX9_tellsApart_55 (by decide) (fun hc => ?_) (fun hc => ?_)
                · have hM27 := oif_t hM27 hc
                  refine lv_iconst (v := (0 : Int32)) (pc := 62) hx hb dX9_tellsApart_62 (by decide) ?_
                  cases hM27
                  exact jn27 _ _ _ hP hD hS (lv_sub hl [0, 1, 2, 3, 4, 5] rfl)
                · have hM27 := oif_f hM27 hc
                  refine lv_iconst (v := (1 : Int32)) (pc := 58) hx hb dX9_tellsApart_58 (by decide) ?_
                  refine lv_goto (pc := 59) (tgt := 63) hx hb dX9_tellsApart_59 (by decide) ?_
                  cases hM27
                  exact jn27 _ _ _ hP hD hS (lv_sub hl [0, 1, 2, 3, 4, 5] rfl)
        exact lp24 oFu _ _ _ _ _ hL24 hP hD hS (lv_sub hl [0, 1, 2, 3, 4, 5] rfl)
  exact lp16 oFu _ _ _ _ _ hL16 hP hD hS (lv_sub hl [0, 1, 2, 3, 4] rfl)
def fX9_refines_b34 (z0_1 : Int32) (p3 : Int32) (deeds : Int32) (sd : Int32) (ent : Int32) (p2 : Int32) (x5_2 : Int32) (st_3 : (Nat → Int32)) (nr_3 : (Nat → Int32)) : Option ((Int32 × (Nat → Int32) × (Nat → Int32)) ⊕ ((Nat → Int32) × (Nat → Int32))) := (if z0_1 ≤ x5_2 then (some (.inr (st_3, nr_3))) else (ob1 (fX9_setOf p3 x5_2 (0 : Int32) deeds sd ent st_3) (fun r_2 => (ob2 (fX9_splits p2 r_2 deeds sd ent st_3 nr_3) (fun st_5 nr_5 => (some (.inl ((x5_2 + (1 : Int32)), st_5, nr_5))))))))
def fX9_refines_s34 (z0_1 : Int32) (p3 : Int32) (deeds : Int32) (sd : Int32) (ent : Int32) (p2 : Int32) (sg_ : Int32 × (Nat → Int32) × (Nat → Int32)) : Option ((Int32 × (Nat → Int32) × (Nat → Int32)) ⊕ ((Nat → Int32) × (Nat → Int32))) := fX9_refines_b34 z0_1 p3 deeds sd ent p2 sg_.1 sg_.2.1 sg_.2.2
def fX9_refines (p2 : Int32) (p3 : Int32) (deeds : Int32) (sd : Int32) (ent : Int32) (st : (Nat → Int32)) (nr : (Nat → Int32)) (ia : (Nat → Int32)) (inw : (Nat → Int32)) : Option ((Nat → Int32) × (Nat → Int32) × (Nat → Int32) × (Nat → Int32)) := (if p3 ≤ (2 : Int32) then (ob1 (if p3 = (2 : Int32) then (some (8 : Int32)) else (some (st 0))) (fun z0_1 => (ob2 (olp (fX9_refines_s34 z0_1 p3 deeds sd ent p2) oFu ((0 : Int32), st, nr)) (fun st_4 nr_4 => (some (st_4, nr_4, ia, inw)))))) else (ob4 (fX9_tellsApart p2 p3 deeds sd ent st nr ia inw) (fun st_6 nr_6 ia_2 inw_2 => (some (st_6, nr_6, ia_2, inw_2)))))
abbrev wX9_refines (cI cZ cM cS : ClassId) (mo mst mpa mim mik mbi mbk mnr mia min mas mpr mfa mme mse : Nat) (deeds : Int32) (sd : Int32) (ent : Int32) (st : (Nat → Int32)) (nr : (Nat → Int32)) (ia : (Nat → Int32)) (inw : (Nat → Int32)) : va_W := [(mo, .inr (9, [.ref mst, .ref mpa, .int deeds, .ref mim, .ref mik, .int sd, .ref mbi, .ref mbk, .int ent, .ref mnr, .ref mia, .ref min, .ref mas, .ref mpr, .ref mfa, .ref mme, .ref mse])), (mst, .inl (cI, 76, .inl st)), (mnr, .inl (cI, 12, .inl nr)), (mia, .inl (cZ, 144, .inl ia)), (min, .inl (cZ, 144, .inl inw))]
set_option maxHeartbeats 4000000 in
set_option maxRecDepth 100000 in
theorem tX9_refines (l : Launch) (D : va_G) (cI cZ cM cS : ClassId) (mo mst mpa mim mik mbi mbk mnr mia min mas mpr mfa mme mse : Nat) (deeds : Int32) (sd : Int32) (ent : Int32) (st : (Nat → Int32)) (nr : (Nat → Int32)) (ia : (Nat → Int32)) (inw : (Nat → Int32)) (p2 : Int32) (p3 : Int32) {st' : (Nat → Int32)} {nr' : (Nat → Int32)} {ia' : (Nat → Int32)} {inw' : (Nat → Int32)} (hF : fX9_refines p2 p3 deeds sd ent st nr ia inw = some (st', nr', ia', inw')) : zCW l yX9_refines wsX9_refines (zRm 4 97) D (zTy cI cZ cM cS) [.ref mo, .ref mst, .int p2, .int p3] (wX9_refines cI cZ cM cS mo mst mpa mim mik mbi mbk mnr mia min mas mpr mfa mme mse deeds sd ent st nr ia inw) (wX9_refines cI cZ cM cS mo mst mpa mim mik mbi mbk mnr mia min mas mpr mfa mme mse deeds sd ent st' nr' ia' inw') none := by
  unfold fX9_refines at hF
  refine zCW_ofv (cc := cX9_refines) (maxL := 6) (own := RX9) (by decide) rfl rfl (Nat.le_of_ble_eq_true rfl) (fun p e s m args below meth c Q ls A E hA hK hP hD hRet hS hl => ?_)
  refine zgen (fun H locs hP hS => ?_) hP hS
  have hl : lv_has ls 6 [(0, .ref mo), (1, .ref mst), (2, .int p2), (3, .int p3)] := hl
  obtain ⟨hx, hb, hml, hown, hts⟩ := id E
  have inX9 : ∀ w ∈ u_ws RX9 TX9 17, w ∈ wsX9_refines := by decide +kernel
  have fl7 := hts (.fieldLink RX9 7 "SplitClassesModel" "st" "[I") (by decide +kernel)
  refine lv_iload_n (pc := 0) hx hb dX9_refines_0 rfl (lv_at hl 3 rfl) ?_
  refine lv_iconst (v := (2 : Int32)) (pc := 1) hx hb dX9_refines_1 (by decide) ?_
  refine lv_icmp_le (pc := 2) (tgt := 13) hx hb dX9_refines_2 (by decide) (fun hc => ?_) (fun hc => ?_)
  · have hF := oif_t hF hc
    refine lv_iload_n (pc := 13) hx hb dX9_refines_13 rfl (lv_at hl 3 rfl) ?_
    refine lv_iconst (v := (2 : Int32)) (pc := 14) hx hb dX9_refines_14 (by decide) ?_
    obtain ⟨z0_1, hM1, hF⟩ := ob1_e hF
    have jn1 : ∀ (H : Heap) (locs : List Loc) (ls : Array Slot), va_P D vwCl (wX9_refines cI cZ cM cS mo mst mpa mim mik mbi mbk mnr mia min mas mpr mfa mme mse deeds sd ent st nr ia inw) H → va_D A (wX9_refines cI cZ cM cS mo mst mpa mim mik mbi mbk mnr mia min mas mpr mfa mme mse deeds sd ent st nr ia inw) → va_S A s.heap H locs → lv_has ls 6 [(0, .ref mo), (1, .ref mst), (2, .int p2), (3, .int p3)] → W p l e (zRm 4 97) s m args below meth c H locs 0 0 Q (F0 m 29 ls [.int z0_1]) := by
      intro H locs ls hP hD hS hl
      refine lv_istore (lv' := [(4, .int z0_1), (0, .ref mo), (1, .ref mst), (2, .int p2), (3, .int p3)]) (pc := 29) hx hb dX9_refines_29 hl (by decide) rfl (fun ls hl => ?_)
      refine lv_iconst (v := (0 : Int32)) (pc := 31) hx hb dX9_refines_31 (by decide) ?_
      refine lv_istore (lv' := [(5, .int (0 : Int32)), (4, .int z0_1), (0, .ref mo), (1, .ref mst), (2, .int p2), (3, .int p3)]) (pc := 32) hx hb dX9_refines_32 hl (by decide) rfl (fun ls hl => ?_)
      obtain ⟨st_4, nr_4, hL4, hF⟩ := ob2_e hF
      have ex4 : ∀ (H : Heap) (locs : List Loc) (ls : Array Slot), va_P D vwCl (wX9_refines cI cZ cM cS mo mst mpa mim mik mbi mbk mnr mia min mas mpr mfa mme mse deeds sd ent st_4 nr_4 ia inw) H → va_D A (wX9_refines cI cZ cM cS mo mst mpa mim mik mbi mbk mnr mia min mas mpr mfa mme mse deeds sd ent st_4 nr_4 ia inw) → va_S A s.heap H locs → lv_has ls 6 [] → W p l e (zRm 4 97) s m args below meth c H locs 0 0 Q (F0 m 61 ls []) := by
        intro H locs ls hP hD hS hl
        cases hF
        exact hRet _ _ _ _ dX9_refines_61 hP hD hS
      have lp4 : ∀ (n : Nat) (x5_2 : Int32) (st_3 : (Nat → Int32)) (nr_3 : (Nat → Int32)) (H : Heap) (locs : List Loc) (ls : Array Slot), olp (fX9_refines_s34 z0_1 p3 deeds sd ent p2) n (x5_2, st_3, nr_3) = some (st_4, nr_4) → va_P D vwCl (wX9_refines cI cZ cM cS mo mst mpa mim mik mbi mbk mnr mia min mas mpr mfa mme mse deeds sd ent st_3 nr_3 ia inw) H → va_D A (wX9_refines cI cZ cM cS mo mst mpa mim mik mbi mbk mnr mia min mas mpr mfa mme mse deeds sd ent st_3 nr_3 ia inw) → va_S A s.heap H locs → lv_has ls 6 [(5, .int x5_2), (4, .int z0_1), (0, .ref mo), (1, .ref mst), (2, .int p2), (3, .int p3)] → W p l e (zRm 4 97) s m args below meth c H locs 0 0 Q (F0 m 34 ls []) := by
        intro n
        induction n with
        | zero => intro x5_2 st_3 nr_3 H locs ls hL; exact olp_0 hL
        | succ n ih =>
          intro x5_2 st_3 nr_3 H locs ls hL4 hP hD hS hl
          obtain ⟨z, hz4, hL4⟩ := olp_e hL4
          have hz4 : fX9_refines_b34 z0_1 p3 deeds sd ent p2 x5_2 st_3 nr_3 = some z := hz4
          unfold fX9_refines_b34 at hz4
          refine lv_iload (pc := 34) hx hb dX9_refines_34 (lv_at hl 0 rfl) ?_
          refine lv_iload (pc := 36) hx hb dX9_refines_36 (lv_at hl 1 rfl) ?_
          refine lv_icmp_ge (pc := 38) (tgt := 61) hx hb dX9_refines_38 (by decide) (fun hc => ?_) (fun hc => ?_)
          · have hz4 := oif_t hz4 hc
            have hE := olp_r hz4 hL4
            cases hE
            exact ex4 _ _ _ hP hD hS (lv_sub hl [] rfl)
          · have hz4 := oif_f hz4 hc
            refine lv_aload_n (pc := 41) hx hb dX9_refines_41 rfl (lv_at hl 2 rfl) ?_
            refine lv_aload_n (pc := 42) hx hb dX9_refines_42 rfl (lv_at hl 3 rfl) ?_
            refine lv_iload_n (pc := 43) hx hb dX9_refines_43 rfl (lv_at hl 4 rfl) ?_
            refine lv_aload_n (pc := 44) hx hb dX9_refines_44 rfl (lv_at hl 2 rfl) ?_
            refine lv_iload_n (pc := 45) hx hb dX9_refines_45 rfl (lv_at hl 5 rfl) ?_
            refine lv_iload (pc := 46) hx hb dX9_refines_46 (lv_at hl 0 rfl) ?_
            refine lv_iconst (v := (0 : Int32)) (pc := 48) hx hb dX9_refines_48 (by decide) ?_
            obtain ⟨r_2, hC5, hz4⟩ := ob1_e hz4
            refine zVr (pc := 49) (As := [.int p3, .int x5_2, .int (0 : Int32)]) (rest := [.int p2, .ref mst, .ref mo]) E (tX9_setOf l D cI cZ cM cS mo mst mpa mim mik mbi mbk mnr mia min mas mpr mfa mme mse deeds sd ent st_3 p3 x5_2 (0 : Int32) hC5) 3 gX9_refines_X9_setOf rfl rfl rfl (by decide +kernel) ⟨Nat.le_of_ble_eq_true rfl, Nat.le_of_ble_eq_true rfl⟩ hK hP [0, 1] rfl 0 9 rfl rfl rfl rfl hl.1 rfl (Nat.le_of_ble_eq_true rfl) dX9_refines_49 ⟨Nat.zero_le _, Nat.zero_le _⟩ ?_
            obtain ⟨st_5, nr_5, hC6, hz4⟩ := ob2_e hz4
            refine zV (pc := 52) (As := [.ref mst, .int p2, .int r_2]) (rest := []) (wr := [(mia, .inl (cZ, 144, .inl ia)), (min, .inl (cZ, 144, .inl inw))]) (w2 := (wX9_refines cI cZ cM cS mo mst mpa mim mik mbi mbk mnr mia min mas mpr mfa mme mse deeds sd ent st_5 nr_5 ia inw)) E (tX9_splits l D cI cZ cM cS mo mst mpa mim mik mbi mbk mnr mia min mas mpr mfa mme mse deeds sd ent st_3 nr_3 p2 r_2 hC6) 3 gX9_refines_X9_splits rfl rfl rfl (by decide +kernel) ⟨Nat.le_of_ble_eq_true rfl, Nat.le_of_ble_eq_true rfl⟩ hK hP hD hS hA [0, 1, 2] [3, 4] [2, 3, 4, 0, 1] (by decide) rfl rfl (by decide) (by decide) rfl (by decide) 0 9 rfl rfl rfl rfl hl.1 rfl (Nat.le_of_ble_eq_true rfl) dX9_refines_52 ⟨Nat.zero_le _, Nat.zero_le _⟩ (fun H locs hP hD hS => ?_)
            refine W.eq (g2 := F0 m 55 ls []) rfl ?_
            refine lv_iinc (v := (x5_2 + (1 : Int32))) (lv' := [(5, .int (x5_2 + (1 : Int32))), (4, .int z0_1), (0, .ref mo), (1, .ref mst), (2, .int p2), (3, .int p3)]) (pc := 55) hx hb dX9_refines_55 hl (k := 0) rfl rfl (by decide) rfl (fun ls hl => ?_)
            refine lv_goto (pc := 58) (tgt := 34) hx hb dX9_refines_58 (by decide) ?_
            exact ih _ _ _ _ _ _ (olp_l hz4 hL4) hP hD hS (lv_sub hl [0, 1, 2, 3, 4, 5] rfl)
      exact lp4 oFu _ _ _ _ _ _ hL4 hP hD hS (lv_sub hl [0, 1, 2, 3, 4, 5] rfl)
    refine lv_icmp_ne (pc := 15) (tgt := 23) hx hb dX9_refines_15 (by decide) (fun hc => ?_) (fun hc => ?_)
    · have hM1 := oif_f hM1 hc
      refine lv_aload_n (pc := 23) hx hb dX9_refines_23 rfl (lv_at hl 0 rfl) ?_
      refine va_get (pc := 24) (ci := 9) (C := RX9) (T := TX9) (N := 17) hx hb hts inX9 hown hK hP 0 rfl rfl 0 (by decide) fl7 (fun _ h9 => h9) rfl dX9_refines_24 ?_
      refine lv_iconst (v := (0 : Int32)) (pc := 27) hx hb dX9_refines_27 (by decide) ?_
      refine z_iald (pc := 28) (k := 0) hx hb hK hP 1 0 rfl rfl (by decide) (by decide) dX9_refines_28 ?_
      cases hM1
      exact jn1 _ _ _ hP hD hS (lv_sub hl [0, 1, 2, 3] rfl)
    · have hM1 := oif_t hM1 hc
      refine lv_bipush (v := (8 : Int32)) (pc := 18) hx hb dX9_refines_18 (by decide) ?_
      refine lv_goto (pc := 20) (tgt := 29) hx hb dX9_refines_20 (by decide) ?_
      cases hM1
      exact jn1 _ _ _ hP hD hS (lv_sub hl [0, 1, 2, 3] rfl)
  · have hF := oif_f hF hc
    refine lv_aload_n (pc := 5) hx hb dX9_refines_5 rfl (lv_at hl 0 rfl) ?_
    refine lv_aload_n (pc := 6) hx hb dX9_refines_6 rfl (lv_at hl 1 rfl) ?_
    refine lv_iload_n (pc := 7) hx hb dX9_refines_7 rfl (lv_at hl 2 rfl) ?_
    refine lv_iload_n (pc := 8) hx hb dX9_refines_8 rfl (lv_at hl 3 rfl) ?_
    obtain ⟨st_6, nr_6, ia_2, inw_2, hC7, hF⟩ := ob4_e hF
    refine zV (pc := 9) (As := [.ref mst, .int p2, .int p3]) (rest := []) (wr := []) (w2 := (wX9_refines cI cZ cM cS mo mst mpa mim mik mbi mbk mnr mia min mas mpr mfa mme mse deeds sd ent st_6 nr_6 ia_2 inw_2)) E (tX9_tellsApart l D cI cZ cM cS mo mst mpa mim mik mbi mbk mnr mia min mas mpr mfa mme mse deeds sd ent st nr ia inw p2 p3 hC7) 3 gX9_refines_X9_tellsApart rfl rfl rfl (by decide +kernel) ⟨Nat.le_of_ble_eq_true rfl, Nat.le_of_ble_eq_true rfl⟩ hK hP hD hS hA [0, 1, 2, 3, 4] [] [0, 1, 2, 3, 4] (by decide) rfl rfl (by decide) (by decide) rfl (by decide) 0 9 rfl rfl rfl rfl hl.1 rfl (Nat.le_of_ble_eq_true rfl) dX9_refines_9 ⟨Nat.zero_le _, Nat.zero_le _⟩ (fun H locs hP hD hS => ?_)
    refine W.eq (g2 := F0 m 12 ls []) rfl ?_
    cases hF
    exact hRet _ _ _ _ dX9_refines_12 hP hD hS
def fX9_refines_a_b34 (z0_1 : Int32) (p3 : Int32) (deeds : Int32) (sd : Int32) (ent : Int32) (st : (Nat → Int32)) (p2 : Int32) (x5_2 : Int32) (nr_3 : (Nat → Int32)) (asd_3 : (Nat → Int32)) : Option ((Int32 × (Nat → Int32) × (Nat → Int32)) ⊕ ((Nat → Int32) × (Nat → Int32))) := (if z0_1 ≤ x5_2 then (some (.inr (nr_3, asd_3))) else (ob1 (fX9_setOf p3 x5_2 (0 : Int32) deeds sd ent st) (fun r_2 => (ob2 (fX9_splits_a p2 r_2 deeds sd ent st nr_3 asd_3) (fun nr_5 asd_5 => (some (.inl ((x5_2 + (1 : Int32)), nr_5, asd_5))))))))
def fX9_refines_a_s34 (z0_1 : Int32) (p3 : Int32) (deeds : Int32) (sd : Int32) (ent : Int32) (st : (Nat → Int32)) (p2 : Int32) (sg_ : Int32 × (Nat → Int32) × (Nat → Int32)) : Option ((Int32 × (Nat → Int32) × (Nat → Int32)) ⊕ ((Nat → Int32) × (Nat → Int32))) := fX9_refines_a_b34 z0_1 p3 deeds sd ent st p2 sg_.1 sg_.2.1 sg_.2.2
def fX9_refines_a (p2 : Int32) (p3 : Int32) (deeds : Int32) (sd : Int32) (ent : Int32) (st : (Nat → Int32)) (nr : (Nat → Int32)) (ia : (Nat → Int32)) (inw : (Nat → Int32)) (asd : (Nat → Int32)) : Option ((Nat → Int32) × (Nat → Int32) × (Nat → Int32) × (Nat → Int32)) := (if p3 ≤ (2 : Int32) then (ob1 (if p3 = (2 : Int32) then (some (8 : Int32)) else (some (st 0))) (fun z0_1 => (ob2 (olp (fX9_refines_a_s34 z0_1 p3 deeds sd ent st p2) oFu ((0 : Int32), nr, asd)) (fun nr_4 asd_4 => (some (nr_4, ia, inw, asd_4)))))) else (ob4 (fX9_tellsApart_a p2 p3 deeds sd ent st nr ia inw asd) (fun nr_6 ia_2 inw_2 asd_6 => (some (nr_6, ia_2, inw_2, asd_6)))))
abbrev wX9_refines_a (cI cZ cM cS : ClassId) (mo mst mpa mim mik mbi mbk mnr mia min mas mpr mfa mme mse : Nat) (deeds : Int32) (sd : Int32) (ent : Int32) (st : (Nat → Int32)) (nr : (Nat → Int32)) (ia : (Nat → Int32)) (inw : (Nat → Int32)) (asd : (Nat → Int32)) : va_W := [(mo, .inr (9, [.ref mst, .ref mpa, .int deeds, .ref mim, .ref mik, .int sd, .ref mbi, .ref mbk, .int ent, .ref mnr, .ref mia, .ref min, .ref mas, .ref mpr, .ref mfa, .ref mme, .ref mse])), (mst, .inl (cI, 76, .inl st)), (mnr, .inl (cI, 12, .inl nr)), (mia, .inl (cZ, 144, .inl ia)), (min, .inl (cZ, 144, .inl inw)), (mas, .inl (cI, 12, .inl asd))]
set_option maxHeartbeats 4000000 in
set_option maxRecDepth 100000 in
theorem tX9_refines_a (l : Launch) (D : va_G) (cI cZ cM cS : ClassId) (mo mst mpa mim mik mbi mbk mnr mia min mas mpr mfa mme mse : Nat) (deeds : Int32) (sd : Int32) (ent : Int32) (st : (Nat → Int32)) (nr : (Nat → Int32)) (ia : (Nat → Int32)) (inw : (Nat → Int32)) (asd : (Nat → Int32)) (p2 : Int32) (p3 : Int32) {nr' : (Nat → Int32)} {ia' : (Nat → Int32)} {inw' : (Nat → Int32)} {asd' : (Nat → Int32)} (hF : fX9_refines_a p2 p3 deeds sd ent st nr ia inw asd = some (nr', ia', inw', asd')) : zCW l yX9_refines wsX9_refines (zRm 4 97) D (zTy cI cZ cM cS) [.ref mo, .ref mas, .int p2, .int p3] (wX9_refines_a cI cZ cM cS mo mst mpa mim mik mbi mbk mnr mia min mas mpr mfa mme mse deeds sd ent st nr ia inw asd) (wX9_refines_a cI cZ cM cS mo mst mpa mim mik mbi mbk mnr mia min mas mpr mfa mme mse deeds sd ent st nr' ia' inw' asd') none := by
  unfold fX9_refines_a at hF
  refine zCW_ofv (cc := cX9_refines) (maxL := 6) (own := RX9) (by decide) rfl rfl (Nat.le_of_ble_eq_true rfl) (fun p e s m args below meth c Q ls A E hA hK hP hD hRet hS hl => ?_)
  refine zgen (fun H locs hP hS => ?_) hP hS
  have hl : lv_has ls 6 [(0, .ref mo), (1, .ref mas), (2, .int p2), (3, .int p3)] := hl
  obtain ⟨hx, hb, hml, hown, hts⟩ := id E
  have inX9 : ∀ w ∈ u_ws RX9 TX9 17, w ∈ wsX9_refines := by decide +kernel
  have fl7 := hts (.fieldLink RX9 7 "SplitClassesModel" "st" "[I") (by decide +kernel)
  refine lv_iload_n (pc := 0) hx hb dX9_refines_0 rfl (lv_at hl 3 rfl) ?_
  refine lv_iconst (v := (2 : Int32)) (pc := 1) hx hb dX9_refines_1 (by decide) ?_
  refine lv_icmp_le (pc := 2) (tgt := 13) hx hb dX9_refines_2 (by decide) (fun hc => ?_) (fun hc => ?_)
  · have hF := oif_t hF hc
    refine lv_iload_n (pc := 13) hx hb dX9_refines_13 rfl (lv_at hl 3 rfl) ?_
    refine lv_iconst (v := (2 : Int32)) (pc := 14) hx hb dX9_refines_14 (by decide) ?_
    obtain ⟨z0_1, hM1, hF⟩ := ob1_e hF
    have jn1 : ∀ (H : Heap) (locs : List Loc) (ls : Array Slot), va_P D vwCl (wX9_refines_a cI cZ cM cS mo mst mpa mim mik mbi mbk mnr mia min mas mpr mfa mme mse deeds sd ent st nr ia inw asd) H → va_D A (wX9_refines_a cI cZ cM cS mo mst mpa mim mik mbi mbk mnr mia min mas mpr mfa mme mse deeds sd ent st nr ia inw asd) → va_S A s.heap H locs → lv_has ls 6 [(0, .ref mo), (1, .ref mas), (2, .int p2), (3, .int p3)] → W p l e (zRm 4 97) s m args below meth c H locs 0 0 Q (F0 m 29 ls [.int z0_1]) := by
      intro H locs ls hP hD hS hl
      refine lv_istore (lv' := [(4, .int z0_1), (0, .ref mo), (1, .ref mas), (2, .int p2), (3, .int p3)]) (pc := 29) hx hb dX9_refines_29 hl (by decide) rfl (fun ls hl => ?_)
      refine lv_iconst (v := (0 : Int32)) (pc := 31) hx hb dX9_refines_31 (by decide) ?_
      refine lv_istore (lv' := [(5, .int (0 : Int32)), (4, .int z0_1), (0, .ref mo), (1, .ref mas), (2, .int p2), (3, .int p3)]) (pc := 32) hx hb dX9_refines_32 hl (by decide) rfl (fun ls hl => ?_)
      obtain ⟨nr_4, asd_4, hL4, hF⟩ := ob2_e hF
      have ex4 : ∀ (H : Heap) (locs : List Loc) (ls : Array Slot), va_P D vwCl (wX9_refines_a cI cZ cM cS mo mst mpa mim mik mbi mbk mnr mia min mas mpr mfa mme mse deeds sd ent st nr_4 ia inw asd_4) H → va_D A (wX9_refines_a cI cZ cM cS mo mst mpa mim mik mbi mbk mnr mia min mas mpr mfa mme mse deeds sd ent st nr_4 ia inw asd_4) → va_S A s.heap H locs → lv_has ls 6 [] → W p l e (zRm 4 97) s m args below meth c H locs 0 0 Q (F0 m 61 ls []) := by
        intro H locs ls hP hD hS hl
        cases hF
        exact hRet _ _ _ _ dX9_refines_61 hP hD hS
      have lp4 : ∀ (n : Nat) (x5_2 : Int32) (nr_3 : (Nat → Int32)) (asd_3 : (Nat → Int32)) (H : Heap) (locs : List Loc) (ls : Array Slot), olp (fX9_refines_a_s34 z0_1 p3 deeds sd ent st p2) n (x5_2, nr_3, asd_3) = some (nr_4, asd_4) → va_P D vwCl (wX9_refines_a cI cZ cM cS mo mst mpa mim mik mbi mbk mnr mia min mas mpr mfa mme mse deeds sd ent st nr_3 ia inw asd_3) H → va_D A (wX9_refines_a cI cZ cM cS mo mst mpa mim mik mbi mbk mnr mia min mas mpr mfa mme mse deeds sd ent st nr_3 ia inw asd_3) → va_S A s.heap H locs → lv_has ls 6 [(5, .int x5_2), (4, .int z0_1), (0, .ref mo), (1, .ref mas), (2, .int p2), (3, .int p3)] → W p l e (zRm 4 97) s m args below meth c H locs 0 0 Q (F0 m 34 ls []) := by
        intro n
        induction n with
        | zero => intro x5_2 nr_3 asd_3 H locs ls hL; exact olp_0 hL
        | succ n ih =>
          intro x5_2 nr_3 asd_3 H locs ls hL4 hP hD hS hl
          obtain ⟨z, hz4, hL4⟩ := olp_e hL4
          have hz4 : fX9_refines_a_b34 z0_1 p3 deeds sd ent st p2 x5_2 nr_3 asd_3 = some z := hz4
          unfold fX9_refines_a_b34 at hz4
          refine lv_iload (pc := 34) hx hb dX9_refines_34 (lv_at hl 0 rfl) ?_
          refine lv_iload (pc := 36) hx hb dX9_refines_36 (lv_at hl 1 rfl) ?_
          refine lv_icmp_ge (pc := 38) (tgt := 61) hx hb dX9_refines_38 (by decide) (fun hc => ?_) (fun hc => ?_)
          · have hz4 := oif_t hz4 hc
            have hE := olp_r hz4 hL4
            cases hE
            exact ex4 _ _ _ hP hD hS (lv_sub hl [] rfl)
          · have hz4 := oif_f hz4 hc
            refine lv_aload_n (pc := 41) hx hb dX9_refines_41 rfl (lv_at hl 2 rfl) ?_
            refine lv_aload_n (pc := 42) hx hb dX9_refines_42 rfl (lv_at hl 3 rfl) ?_
            refine lv_iload_n (pc := 43) hx hb dX9_refines_43 rfl (lv_at hl 4 rfl) ?_
            refine lv_aload_n (pc := 44) hx hb dX9_refines_44 rfl (lv_at hl 2 rfl) ?_
            refine lv_iload_n (pc := 45) hx hb dX9_refines_45 rfl (lv_at hl 5 rfl) ?_
            refine lv_iload (pc := 46) hx hb dX9_refines_46 (lv_at hl 0 rfl) ?_
            refine lv_iconst (v := (0 : Int32)) (pc := 48) hx hb dX9_refines_48 (by decide) ?_
            obtain ⟨r_2, hC5, hz4⟩ := ob1_e hz4
            refine zVr (pc := 49) (As := [.int p3, .int x5_2, .int (0 : Int32)]) (rest := [.int p2, .ref mas, .ref mo]) E (tX9_setOf l D cI cZ cM cS mo mst mpa mim mik mbi mbk mnr mia min mas mpr mfa mme mse deeds sd ent st p3 x5_2 (0 : Int32) hC5) 3 gX9_refines_X9_setOf rfl rfl rfl (by decide +kernel) ⟨Nat.le_of_ble_eq_true rfl, Nat.le_of_ble_eq_true rfl⟩ hK hP [0, 1] rfl 0 9 rfl rfl rfl rfl hl.1 rfl (Nat.le_of_ble_eq_true rfl) dX9_refines_49 ⟨Nat.zero_le _, Nat.zero_le _⟩ ?_
            obtain ⟨nr_5, asd_5, hC6, hz4⟩ := ob2_e hz4
            refine zV (pc := 52) (As := [.ref mas, .int p2, .int r_2]) (rest := []) (wr := [(mia, .inl (cZ, 144, .inl ia)), (min, .inl (cZ, 144, .inl inw))]) (w2 := (wX9_refines_a cI cZ cM cS mo mst mpa mim mik mbi mbk mnr mia min mas mpr mfa mme mse deeds sd ent st nr_5 ia inw asd_5)) E (tX9_splits_a l D cI cZ cM cS mo mst mpa mim mik mbi mbk mnr mia min mas mpr mfa mme mse deeds sd ent st nr_3 asd_3 p2 r_2 hC6) 3 gX9_refines_X9_splits rfl rfl rfl (by decide +kernel) ⟨Nat.le_of_ble_eq_true rfl, Nat.le_of_ble_eq_true rfl⟩ hK hP hD hS hA [0, 1, 2, 5] [3, 4] [2, 3, 4, 0, 1, 5] (by decide) rfl rfl (by decide) (by decide) rfl (by decide) 0 9 rfl rfl rfl rfl hl.1 rfl (Nat.le_of_ble_eq_true rfl) dX9_refines_52 ⟨Nat.zero_le _, Nat.zero_le _⟩ (fun H locs hP hD hS => ?_)
            refine W.eq (g2 := F0 m 55 ls []) rfl ?_
            refine lv_iinc (v := (x5_2 + (1 : Int32))) (lv' := [(5, .int (x5_2 + (1 : Int32))), (4, .int z0_1), (0, .ref mo), (1, .ref mas), (2, .int p2), (3, .int p3)]) (pc := 55) hx hb dX9_refines_55 hl (k := 0) rfl rfl (by decide) rfl (fun ls hl => ?_)
            refine lv_goto (pc := 58) (tgt := 34) hx hb dX9_refines_58 (by decide) ?_
            exact ih _ _ _ _ _ _ (olp_l hz4 hL4) hP hD hS (lv_sub hl [0, 1, 2, 3, 4, 5] rfl)
      exact lp4 oFu _ _ _ _ _ _ hL4 hP hD hS (lv_sub hl [0, 1, 2, 3, 4, 5] rfl)
    refine lv_icmp_ne (pc := 15) (tgt := 23) hx hb dX9_refines_15 (by decide) (fun hc => ?_) (fun hc => ?_)
    · have hM1 := oif_f hM1 hc
      refine lv_aload_n (pc := 23) hx hb dX9_refines_23 rfl (lv_at hl 0 rfl) ?_
      refine va_get (pc := 24) (ci := 9) (C := RX9) (T := TX9) (N := 17) hx hb hts inX9 hown hK hP 0 rfl rfl 0 (by decide) fl7 (fun _ h9 => h9) rfl dX9_refines_24 ?_
      refine lv_iconst (v := (0 : Int32)) (pc := 27) hx hb dX9_refines_27 (by decide) ?_
      refine z_iald (pc := 28) (k := 0) hx hb hK hP 1 0 rfl rfl (by decide) (by decide) dX9_refines_28 ?_
      cases hM1
      exact jn1 _ _ _ hP hD hS (lv_sub hl [0, 1, 2, 3] rfl)
    · have hM1 := oif_t hM1 hc
      refine lv_bipush (v := (8 : Int32)) (pc := 18) hx hb dX9_refines_18 (by decide) ?_
      refine lv_goto (pc := 20) (tgt := 29) hx hb dX9_refines_20 (by decide) ?_
      cases hM1
      exact jn1 _ _ _ hP hD hS (lv_sub hl [0, 1, 2, 3] rfl)
  · have hF := oif_f hF hc
    refine lv_aload_n (pc := 5) hx hb dX9_refines_5 rfl (lv_at hl 0 rfl) ?_
    refine lv_aload_n (pc := 6) hx hb dX9_refines_6 rfl (lv_at hl 1 rfl) ?_
    refine lv_iload_n (pc := 7) hx hb dX9_refines_7 rfl (lv_at hl 2 rfl) ?_
    refine lv_iload_n (pc := 8) hx hb dX9_refines_8 rfl (lv_at hl 3 rfl) ?_
    obtain ⟨nr_6, ia_2, inw_2, asd_6, hC7, hF⟩ := ob4_e hF
    refine zV (pc := 9) (As := [.ref mas, .int p2, .int p3]) (rest := []) (wr := []) (w2 := (wX9_refines_a cI cZ cM cS mo mst mpa mim mik mbi mbk mnr mia min mas mpr mfa mme mse deeds sd ent st nr_6 ia_2 inw_2 asd_6)) E (tX9_tellsApart_a l D cI cZ cM cS mo mst mpa mim mik mbi mbk mnr mia min mas mpr mfa mme mse deeds sd ent st nr ia inw asd p2 p3 hC7) 3 gX9_refines_X9_tellsApart rfl rfl rfl (by decide +kernel) ⟨Nat.le_of_ble_eq_true rfl, Nat.le_of_ble_eq_true rfl⟩ hK hP hD hS hA [0, 1, 2, 3, 4, 5] [] [0, 1, 2, 3, 4, 5] (by decide) rfl rfl (by decide) (by decide) rfl (by decide) 0 9 rfl rfl rfl rfl hl.1 rfl (Nat.le_of_ble_eq_true rfl) dX9_refines_9 ⟨Nat.zero_le _, Nat.zero_le _⟩ (fun H locs hP hD hS => ?_)
    refine W.eq (g2 := F0 m 12 ls []) rfl ?_
    cases hF
    exact hRet _ _ _ _ dX9_refines_12 hP hD hS
def fX9_ofItself_b2  (x2_2 : Int32) (asd_2 : (Nat → Int32)) : Option ((Int32 × (Nat → Int32)) ⊕ ((Nat → Int32))) := (if (12 : Int32) ≤ x2_2 then (some (.inr asd_2)) else (ogd x2_2 12 (some (.inl ((x2_2 + (1 : Int32)), (upd asd_2 (Int32.toNatClampNeg x2_2) (0 : Int32)))))))
def fX9_ofItself_s2  (sg_ : Int32 × (Nat → Int32)) : Option ((Int32 × (Nat → Int32)) ⊕ ((Nat → Int32))) := fX9_ofItself_b2  sg_.1 sg_.2
def fX9_ofItself (p1 : Int32) (deeds : Int32) (sd : Int32) (ent : Int32) (st : (Nat → Int32)) (nr : (Nat → Int32)) (ia : (Nat → Int32)) (inw : (Nat → Int32)) (asd : (Nat → Int32)) : Option ((Nat → Int32) × (Nat → Int32) × (Nat → Int32) × (Nat → Int32)) := (ob1 (olp (fX9_ofItself_s2) oFu ((0 : Int32), asd)) (fun asd_3 => (ob4 (fX9_refines_a (0 : Int32) p1 deeds sd ent st nr ia inw asd_3) (fun nr_2 ia_2 inw_2 asd_4 => (some (nr_2, ia_2, inw_2, asd_4))))))
abbrev wX9_ofItself (cI cZ cM cS : ClassId) (mo mst mpa mim mik mbi mbk mnr mia min mas mpr mfa mme mse : Nat) (deeds : Int32) (sd : Int32) (ent : Int32) (st : (Nat → Int32)) (nr : (Nat → Int32)) (ia : (Nat → Int32)) (inw : (Nat → Int32)) (asd : (Nat → Int32)) : va_W := [(mo, .inr (9, [.ref mst, .ref mpa, .int deeds, .ref mim, .ref mik, .int sd, .ref mbi, .ref mbk, .int ent, .ref mnr, .ref mia, .ref min, .ref mas, .ref mpr, .ref mfa, .ref mme, .ref mse])), (mst, .inl (cI, 76, .inl st)), (mnr, .inl (cI, 12, .inl nr)), (mia, .inl (cZ, 144, .inl ia)), (min, .inl (cZ, 144, .inl inw)), (mas, .inl (cI, 12, .inl asd))]
set_option maxHeartbeats 4000000 in
set_option maxRecDepth 100000 in
theorem tX9_ofItself (l : Launch) (D : va_G) (cI cZ cM cS : ClassId) (mo mst mpa mim mik mbi mbk mnr mia min mas mpr mfa mme mse : Nat) (deeds : Int32) (sd : Int32) (ent : Int32) (st : (Nat → Int32)) (nr : (Nat → Int32)) (ia : (Nat → Int32)) (inw : (Nat → Int32)) (asd : (Nat → Int32)) (p1 : Int32) {nr' : (Nat → Int32)} {ia' : (Nat → Int32)} {inw' : (Nat → Int32)} {asd' : (Nat → Int32)} (hF : fX9_ofItself p1 deeds sd ent st nr ia inw asd = some (nr', ia', inw', asd')) : zCW l yX9_ofItself wsX9_ofItself (zRm 5 122) D (zTy cI cZ cM cS) [.ref mo, .int p1] (wX9_ofItself cI cZ cM cS mo mst mpa mim mik mbi mbk mnr mia min mas mpr mfa mme mse deeds sd ent st nr ia inw asd) (wX9_ofItself cI cZ cM cS mo mst mpa mim mik mbi mbk mnr mia min mas mpr mfa mme mse deeds sd ent st nr' ia' inw' asd') none := by
  unfold fX9_ofItself at hF
  refine zCW_ofv (cc := cX9_ofItself) (maxL := 3) (own := RX9) (by decide) rfl rfl (Nat.le_of_ble_eq_true rfl) (fun p e s m args below meth c Q ls A E hA hK hP hD hRet hS hl => ?_)
  refine zgen (fun H locs hP hS => ?_) hP hS
  have hl : lv_has ls 3 [(0, .ref mo), (1, .int p1)] := hl
  obtain ⟨hx, hb, hml, hown, hts⟩ := id E
  have inX9 : ∀ w ∈ u_ws RX9 TX9 17, w ∈ wsX9_ofItself := by decide +kernel
  have fl38 := hts (.fieldLink RX9 38 "SplitClassesModel" "aside" "[I") (by decide +kernel)
  refine lv_iconst (v := (0 : Int32)) (pc := 0) hx hb dX9_ofItself_0 (by decide) ?_
  refine lv_istore_n (lv' := [(2, .int (0 : Int32)), (0, .ref mo), (1, .int p1)]) (pc := 1) hx hb dX9_ofItself_1 rfl hl (by decide) rfl (fun ls hl => ?_)
  obtain ⟨asd_3, hL2, hF⟩ := ob1_e hF
  have ex2 : ∀ (H : Heap) (locs : List Loc) (ls : Array Slot), va_P D vwCl (wX9_ofItself cI cZ cM cS mo mst mpa mim mik mbi mbk mnr mia min mas mpr mfa mme mse deeds sd ent st nr ia inw asd_3) H → va_D A (wX9_ofItself cI cZ cM cS mo mst mpa mim mik mbi mbk mnr mia min mas mpr mfa mme mse deeds sd ent st nr ia inw asd_3) → va_S A s.heap H locs → lv_has ls 3 [(0, .ref mo), (1, .int p1)] → W p l e (zRm 5 122) s m args below meth c H locs 0 0 Q (F0 m 21 ls []) := by
    intro H locs ls hP hD hS hl
    refine lv_aload_n (pc := 21) hx hb dX9_ofItself_21 rfl (lv_at hl 0 rfl) ?_
    refine lv_aload_n (pc := 22) hx hb dX9_ofItself_22 rfl (lv_at hl 0 rfl) ?_
    refine va_get (pc := 23) (ci := 9) (C := RX9) (T := TX9) (N := 17) hx hb hts inX9 hown hK hP 0 rfl rfl 12 (by decide) fl38 (fun _ h9 => h9) rfl dX9_ofItself_23 ?_
    refine lv_iconst (v := (0 : Int32)) (pc := 26) hx hb dX9_ofItself_26 (by decide) ?_
    refine lv_iload_n (pc := 27) hx hb dX9_ofItself_27 rfl (lv_at hl 1 rfl) ?_
    obtain ⟨nr_2, ia_2, inw_2, asd_4, hC4, hF⟩ := ob4_e hF
    refine zV (pc := 28) (As := [.ref mas, .int (0 : Int32), .int p1]) (rest := []) (wr := []) (w2 := (wX9_ofItself cI cZ cM cS mo mst mpa mim mik mbi mbk mnr mia min mas mpr mfa mme mse deeds sd ent st nr_2 ia_2 inw_2 asd_4)) E (tX9_refines_a l D cI cZ cM cS mo mst mpa mim mik mbi mbk mnr mia min mas mpr mfa mme mse deeds sd ent st nr ia inw asd_3 (0 : Int32) p1 hC4) 3 gX9_ofItself_X9_refines rfl rfl rfl (by decide +kernel) ⟨Nat.le_of_ble_eq_true rfl, Nat.le_of_ble_eq_true rfl⟩ hK hP hD hS hA [0, 1, 2, 3, 4, 5] [] [0, 1, 2, 3, 4, 5] (by decide) rfl rfl (by decide) (by decide) rfl (by decide) 0 9 rfl rfl rfl rfl hl.1 rfl (Nat.le_of_ble_eq_true rfl) dX9_ofItself_28 ⟨Nat.zero_le _, Nat.zero_le _⟩ (fun H locs hP hD hS => ?_)
    refine W.eq (g2 := F0 m 31 ls []) rfl ?_
    cases hF
    exact hRet _ _ _ _ dX9_ofItself_31 hP hD hS
  have lp2 : ∀ (n : Nat) (x2_2 : Int32) (asd_2 : (Nat → Int32)) (H : Heap) (locs : List Loc) (ls : Array Slot), olp (fX9_ofItself_s2) n (x2_2, asd_2) = some asd_3 → va_P D vwCl (wX9_ofItself cI cZ cM cS mo mst mpa mim mik mbi mbk mnr mia min mas mpr mfa mme mse deeds sd ent st nr ia inw asd_2) H → va_D A (wX9_ofItself cI cZ cM cS mo mst mpa mim mik mbi mbk mnr mia min mas mpr mfa mme mse deeds sd ent st nr ia inw asd_2) → va_S A s.heap H locs → lv_has ls 3 [(2, .int x2_2), (0, .ref mo), (1, .int p1)] → W p l e (zRm 5 122) s m args below meth c H locs 0 0 Q (F0 m 2 ls []) := by
    intro n
    induction n with
    | zero => intro x2_2 asd_2 H locs ls hL; exact olp_0 hL
    | succ n ih =>
      intro x2_2 asd_2 H locs ls hL2 hP hD hS hl
      obtain ⟨z, hz2, hL2⟩ := olp_e hL2
      have hz2 : fX9_ofItself_b2  x2_2 asd_2 = some z := hz2
      unfold fX9_ofItself_b2 at hz2
      refine lv_iload_n (pc := 2) hx hb dX9_ofItself_2 rfl (lv_at hl 0 rfl) ?_
      refine lv_bipush (v := (12 : Int32)) (pc := 3) hx hb dX9_ofItself_3 (by decide) ?_
      refine lv_icmp_ge (pc := 5) (tgt := 21) hx hb dX9_ofItself_5 (by decide) (fun hc => ?_) (fun hc => ?_)
      · have hz2 := oif_t hz2 hc
        have hE := olp_r hz2 hL2
        cases hE
        exact ex2 _ _ _ hP hD hS (lv_sub hl [1, 2] rfl)
      · have hz2 := oif_f hz2 hc
        refine lv_aload_n (pc := 8) hx hb dX9_ofItself_8 rfl (lv_at hl 1 rfl) ?_
        refine va_get (pc := 9) (ci := 9) (C := RX9) (T := TX9) (N := 17) hx hb hts inX9 hown hK hP 0 rfl rfl 12 (by decide) fl38 (fun _ h9 => h9) rfl dX9_ofItself_9 ?_
        refine lv_iload_n (pc := 12) hx hb dX9_ofItself_12 rfl (lv_at hl 0 rfl) ?_
        refine lv_iconst (v := (0 : Int32)) (pc := 13) hx hb dX9_ofItself_13 (by decide) ?_
        obtain ⟨hg3, hz2⟩ := ogd_e hz2
        refine va_iast (pc := 14) hx hb hK hP hD hS 5 0 rfl rfl hg3 dX9_ofItself_14 (fun H locs hP hD hS => ?_)
        have hP : va_P D vwCl (wX9_ofItself cI cZ cM cS mo mst mpa mim mik mbi mbk mnr mia min mas mpr mfa mme mse deeds sd ent st nr ia inw (upd asd_2 (Int32.toNatClampNeg x2_2) (0 : Int32))) H := hP
        have hD : va_D A (wX9_ofItself cI cZ cM cS mo mst mpa mim mik mbi mbk mnr mia min mas mpr mfa mme mse deeds sd ent st nr ia inw (upd asd_2 (Int32.toNatClampNeg x2_2) (0 : Int32))) := hD
        refine lv_iinc (v := (x2_2 + (1 : Int32))) (lv' := [(2, .int (x2_2 + (1 : Int32))), (0, .ref mo), (1, .int p1)]) (pc := 15) hx hb dX9_ofItself_15 hl (k := 0) rfl rfl (by decide) rfl (fun ls hl => ?_)
        refine lv_goto (pc := 18) (tgt := 2) hx hb dX9_ofItself_18 (by decide) ?_
        exact ih _ _ _ _ _ (olp_l hz2 hL2) hP hD hS (lv_sub hl [0, 1, 2] rfl)
  exact lp2 oFu _ _ _ _ _ hL2 hP hD hS (lv_sub hl [0, 1, 2] rfl)
def fX9_refinedMany (p1 : Int32) (deeds : Int32) (sd : Int32) (ent : Int32) (st : (Nat → Int32)) (nr : (Nat → Int32)) (ia : (Nat → Int32)) (inw : (Nat → Int32)) (asd : (Nat → Int32)) : Option (Int32 × (Nat → Int32) × (Nat → Int32) × (Nat → Int32) × (Nat → Int32)) := (ob4 (fX9_ofItself p1 deeds sd ent st nr ia inw asd) (fun nr_1 ia_1 inw_1 asd_1 => (ob1 (fX9_classes_a (0 : Int32) deeds sd ent st asd_1) (fun r_1 => (some (r_1, nr_1, ia_1, inw_1, asd_1))))))
abbrev wX9_refinedMany (cI cZ cM cS : ClassId) (mo mst mpa mim mik mbi mbk mnr mia min mas mpr mfa mme mse : Nat) (deeds : Int32) (sd : Int32) (ent : Int32) (st : (Nat → Int32)) (nr : (Nat → Int32)) (ia : (Nat → Int32)) (inw : (Nat → Int32)) (asd : (Nat → Int32)) : va_W := [(mo, .inr (9, [.ref mst, .ref mpa, .int deeds, .ref mim, .ref mik, .int sd, .ref mbi, .ref mbk, .int ent, .ref mnr, .ref mia, .ref min, .ref mas, .ref mpr, .ref mfa, .ref mme, .ref mse])), (mst, .inl (cI, 76, .inl st)), (mnr, .inl (cI, 12, .inl nr)), (mia, .inl (cZ, 144, .inl ia)), (min, .inl (cZ, 144, .inl inw)), (mas, .inl (cI, 12, .inl asd))]
set_option maxHeartbeats 4000000 in
set_option maxRecDepth 100000 in
theorem tX9_refinedMany (l : Launch) (D : va_G) (cI cZ cM cS : ClassId) (mo mst mpa mim mik mbi mbk mnr mia min mas mpr mfa mme mse : Nat) (deeds : Int32) (sd : Int32) (ent : Int32) (st : (Nat → Int32)) (nr : (Nat → Int32)) (ia : (Nat → Int32)) (inw : (Nat → Int32)) (asd : (Nat → Int32)) (p1 : Int32) {r : Int32} {nr' : (Nat → Int32)} {ia' : (Nat → Int32)} {inw' : (Nat → Int32)} {asd' : (Nat → Int32)} (hF : fX9_refinedMany p1 deeds sd ent st nr ia inw asd = some (r, nr', ia', inw', asd')) : zCW l yX9_refinedMany wsX9_refinedMany (zRm 6 144) D (zTy cI cZ cM cS) [.ref mo, .int p1] (wX9_refinedMany cI cZ cM cS mo mst mpa mim mik mbi mbk mnr mia min mas mpr mfa mme mse deeds sd ent st nr ia inw asd) (wX9_refinedMany cI cZ cM cS mo mst mpa mim mik mbi mbk mnr mia min mas mpr mfa mme mse deeds sd ent st nr' ia' inw' asd') (some (.int r)) := by
  unfold fX9_refinedMany at hF
  refine zCW_ofi (cc := cX9_refinedMany) (maxL := 2) (own := RX9) (by decide) rfl rfl (Nat.le_of_ble_eq_true rfl) (fun p e s m args below meth c Q ls A E hA hK hP hD hRet hS hl => ?_)
  refine zgen (fun H locs hP hS => ?_) hP hS
  have hl : lv_has ls 2 [(0, .ref mo), (1, .int p1)] := hl
  obtain ⟨hx, hb, hml, hown, hts⟩ := id E
  have inX9 : ∀ w ∈ u_ws RX9 TX9 17, w ∈ wsX9_refinedMany := by decide +kernel
  have fl38 := hts (.fieldLink RX9 38 "SplitClassesModel" "aside" "[I") (by decide +kernel)
  refine lv_aload_n (pc := 0) hx hb dX9_refinedMany_0 rfl (lv_at hl 0 rfl) ?_
  refine lv_iload_n (pc := 1) hx hb dX9_refinedMany_1 rfl (lv_at hl 1 rfl) ?_
  obtain ⟨nr_1, ia_1, inw_1, asd_1, hC1, hF⟩ := ob4_e hF
  refine zV (pc := 2) (As := [.int p1]) (rest := []) (wr := []) (w2 := (wX9_refinedMany cI cZ cM cS mo mst mpa mim mik mbi mbk mnr mia min mas mpr mfa mme mse deeds sd ent st nr_1 ia_1 inw_1 asd_1)) E (tX9_ofItself l D cI cZ cM cS mo mst mpa mim mik mbi mbk mnr mia min mas mpr mfa mme mse deeds sd ent st nr ia inw asd p1 hC1) 1 gX9_refinedMany_X9_ofItself rfl rfl rfl (by decide +kernel) ⟨Nat.le_of_ble_eq_true rfl, Nat.le_of_ble_eq_true rfl⟩ hK hP hD hS hA [0, 1, 2, 3, 4, 5] [] [0, 1, 2, 3, 4, 5] (by decide) rfl rfl (by decide) (by decide) rfl (by decide) 0 9 rfl rfl rfl rfl hl.1 rfl (Nat.le_of_ble_eq_true rfl) dX9_refinedMany_2 ⟨Nat.zero_le _, Nat.zero_le _⟩ (fun H locs hP hD hS => ?_)
  refine W.eq (g2 := F0 m 5 ls []) rfl ?_
  refine lv_aload_n (pc := 5) hx hb dX9_refinedMany_5 rfl (lv_at hl 0 rfl) ?_
  refine lv_aload_n (pc := 6) hx hb dX9_refinedMany_6 rfl (lv_at hl 0 rfl) ?_
  refine va_get (pc := 7) (ci := 9) (C := RX9) (T := TX9) (N := 17) hx hb hts inX9 hown hK hP 0 rfl rfl 12 (by decide) fl38 (fun _ h9 => h9) rfl dX9_refinedMany_7 ?_
  refine lv_iconst (v := (0 : Int32)) (pc := 10) hx hb dX9_refinedMany_10 (by decide) ?_
  obtain ⟨r_1, hC2, hF⟩ := ob1_e hF
  refine zVr (pc := 11) (As := [.ref mas, .int (0 : Int32)]) (rest := []) E (tX9_classes_a l D cI cZ cM cS mo mst mpa mim mik mbi mbk mnr mia min mas mpr mfa mme mse deeds sd ent st asd_1 (0 : Int32) hC2) 2 gX9_refinedMany_X9_classes rfl rfl rfl (by decide +kernel) ⟨Nat.le_of_ble_eq_true rfl, Nat.le_of_ble_eq_true rfl⟩ hK hP [0, 1, 5] rfl 0 9 rfl rfl rfl rfl hl.1 rfl (Nat.le_of_ble_eq_true rfl) dX9_refinedMany_11 ⟨Nat.zero_le _, Nat.zero_le _⟩ ?_
  cases hF
  exact hRet _ _ _ _ rfl dX9_refinedMany_14 hP hD hS
def fX9_alike (p1 : Int32) (p2 : Int32) (p3 : Int32) (deeds : Int32) (sd : Int32) (ent : Int32) (st : (Nat → Int32)) (nr : (Nat → Int32)) (ia : (Nat → Int32)) (inw : (Nat → Int32)) (asd : (Nat → Int32)) : Option (Int32 × (Nat → Int32) × (Nat → Int32) × (Nat → Int32) × (Nat → Int32)) := (ob1 (fX9_isItem p1 deeds sd ent st) (fun r_1 => (if r_1 = (0 : Int32) then (some ((-1000000001 : Int32), nr, ia, inw, asd)) else (ob1 (fX9_isItem p2 deeds sd ent st) (fun r_2 => (if r_2 = (0 : Int32) then (some ((-1000000001 : Int32), nr, ia, inw, asd)) else (ob1 (fX9_in p3 (0 : Int32) (4 : Int32)) (fun r_3 => (if r_3 = (0 : Int32) then (some ((-1000000002 : Int32), nr, ia, inw, asd)) else (ob4 (fX9_ofItself p3 deeds sd ent st nr ia inw asd) (fun nr_1 ia_1 inw_1 asd_1 => (ogd p1 12 (ogd p2 12 (if (asd_1 (Int32.toNatClampNeg p1)) = (asd_1 (Int32.toNatClampNeg p2)) then (some ((1 : Int32), nr_1, ia_1, inw_1, asd_1)) else (some ((0 : Int32), nr_1, ia_1, inw_1, asd_1))))))))))))))))
abbrev wX9_alike (cI cZ cM cS : ClassId) (mo mst mpa mim mik mbi mbk mnr mia min mas mpr mfa mme mse : Nat) (deeds : Int32) (sd : Int32) (ent : Int32) (st : (Nat → Int32)) (nr : (Nat → Int32)) (ia : (Nat → Int32)) (inw : (Nat → Int32)) (asd : (Nat → Int32)) : va_W := [(mo, .inr (9, [.ref mst, .ref mpa, .int deeds, .ref mim, .ref mik, .int sd, .ref mbi, .ref mbk, .int ent, .ref mnr, .ref mia, .ref min, .ref mas, .ref mpr, .ref mfa, .ref mme, .ref mse])), (mst, .inl (cI, 76, .inl st)), (mnr, .inl (cI, 12, .inl nr)), (mia, .inl (cZ, 144, .inl ia)), (min, .inl (cZ, 144, .inl inw)), (mas, .inl (cI, 12, .inl asd))]
set_option maxHeartbeats 4000000 in
set_option maxRecDepth 100000 in
theorem tX9_alike (l : Launch) (D : va_G) (cI cZ cM cS : ClassId) (mo mst mpa mim mik mbi mbk mnr mia min mas mpr mfa mme mse : Nat) (deeds : Int32) (sd : Int32) (ent : Int32) (st : (Nat → Int32)) (nr : (Nat → Int32)) (ia : (Nat → Int32)) (inw : (Nat → Int32)) (asd : (Nat → Int32)) (p1 : Int32) (p2 : Int32) (p3 : Int32) {r : Int32} {nr' : (Nat → Int32)} {ia' : (Nat → Int32)} {inw' : (Nat → Int32)} {asd' : (Nat → Int32)} (hF : fX9_alike p1 p2 p3 deeds sd ent st nr ia inw asd = some (r, nr', ia', inw', asd')) : zCW l yX9_alike wsX9_alike (zRm 6 144) D (zTy cI cZ cM cS) [.ref mo, .int p1, .int p2, .int p3] (wX9_alike cI cZ cM cS mo mst mpa mim mik mbi mbk mnr mia min mas mpr mfa mme mse deeds sd ent st nr ia inw asd) (wX9_alike cI cZ cM cS mo mst mpa mim mik mbi mbk mnr mia min mas mpr mfa mme mse deeds sd ent st nr' ia' inw' asd') (some (.int r)) := by
  unfold fX9_alike at hF
  refine zCW_ofi (cc := cX9_alike) (maxL := 4) (own := RX9) (by decide) rfl rfl (Nat.le_of_ble_eq_true rfl) (fun p e s m args below meth c Q ls A E hA hK hP hD hRet hS hl => ?_)
  refine zgen (fun H locs hP hS => ?_) hP hS
  have hl : lv_has ls 4 [(0, .ref mo), (1, .int p1), (2, .int p2), (3, .int p3)] := hl
  obtain ⟨hx, hb, hml, hown, hts⟩ := id E
  have inX9 : ∀ w ∈ u_ws RX9 TX9 17, w ∈ wsX9_alike := by decide +kernel
  have fl38 := hts (.fieldLink RX9 38 "SplitClassesModel" "aside" "[I") (by decide +kernel)
  have cn93 := hts (.constant RX9 93 (-1000000001)) (by decide +kernel)
  have cn94 := hts (.constant RX9 94 (-1000000002)) (by decide +kernel)
  refine lv_aload_n (pc := 0) hx hb dX9_alike_0 rfl (lv_at hl 0 rfl) ?_
  refine lv_iload_n (pc := 1) hx hb dX9_alike_1 rfl (lv_at hl 1 rfl) ?_
  obtain ⟨r_1, hC1, hF⟩ := ob1_e hF
  refine zVr (pc := 2) (As := [.int p1]) (rest := []) E (tX9_isItem l D cI cZ cM cS mo mst mpa mim mik mbi mbk mnr mia min mas mpr mfa mme mse deeds sd ent st p1 hC1) 1 gX9_alike_X9_isItem rfl rfl rfl (by decide +kernel) ⟨Nat.le_of_ble_eq_true rfl, Nat.le_of_ble_eq_true rfl⟩ hK hP [0, 1] rfl 0 9 rfl rfl rfl rfl hl.1 rfl (Nat.le_of_ble_eq_true rfl) dX9_alike_2 ⟨Nat.zero_le _, Nat.zero_le _⟩ ?_
  refine lv_if_eq (pc := 5) (tgt := 16) hx hb dX9_alike_5 (by decide) (fun hc => ?_) (fun hc => ?_)
  · have hF := oif_t hF hc
    refine lv_ldc (v := (-1000000001 : Int32)) (pc := 16) hx hb hown cn93 dX9_alike_16 ?_
    cases hF
    exact hRet _ _ _ _ rfl dX9_alike_18 hP hD hS
  · have hF := oif_f hF hc
    refine lv_aload_n (pc := 8) hx hb dX9_alike_8 rfl (lv_at hl 0 rfl) ?_
    refine lv_iload_n (pc := 9) hx hb dX9_alike_9 rfl (lv_at hl 2 rfl) ?_
    obtain ⟨r_2, hC2, hF⟩ := ob1_e hF
    refine zVr (pc := 10) (As := [.int p2]) (rest := []) E (tX9_isItem l D cI cZ cM cS mo mst mpa mim mik mbi mbk mnr mia min mas mpr mfa mme mse deeds sd ent st p2 hC2) 1 gX9_alike_X9_isItem rfl rfl rfl (by decide +kernel) ⟨Nat.le_of_ble_eq_true rfl, Nat.le_of_ble_eq_true rfl⟩ hK hP [0, 1] rfl 0 9 rfl rfl rfl rfl hl.1 rfl (Nat.le_of_ble_eq_true rfl) dX9_alike_10 ⟨Nat.zero_le _, Nat.zero_le _⟩ ?_
    refine lv_if_ne (pc := 13) (tgt := 19) hx hb dX9_alike_13 (by decide) (fun hc => ?_) (fun hc => ?_)
    · have hF := oif_f hF hc
      refine lv_iload_n (pc := 19) hx hb dX9_alike_19 rfl (lv_at hl 3 rfl) ?_
      refine lv_iconst (v := (0 : Int32)) (pc := 20) hx hb dX9_alike_20 (by decide) ?_
      refine lv_iconst (v := (4 : Int32)) (pc := 21) hx hb dX9_alike_21 (by decide) ?_
      obtain ⟨r_3, hC3, hF⟩ := ob1_e hF
      refine zSr (pc := 22) (As := [.int p3, .int (0 : Int32), .int (4 : Int32)]) (rest := []) E (tX9_in l D cI cZ cM cS p3 (0 : Int32) (4 : Int32) hC3) 3 gX9_alike_X9_in rfl rfl rfl (by decide +kernel) ⟨Nat.le_of_ble_eq_true rfl, Nat.le_of_ble_eq_true rfl⟩ hK hP [] rfl rfl hl.1 rfl (Nat.le_of_ble_eq_true rfl) dX9_alike_22 ⟨Nat.zero_le _, Nat.zero_le _⟩ ?_
      refine lv_if_ne (pc := 25) (tgt := 31) hx hb dX9_alike_25 (by decide) (fun hc => ?_) (fun hc => ?_)
      · have hF := oif_f hF hc
        refine lv_aload_n (pc := 31) hx hb dX9_alike_31 rfl (lv_at hl 0 rfl) ?_
        refine lv_iload_n (pc := 32) hx hb dX9_alike_32 rfl (lv_at hl 3 rfl) ?_
        obtain ⟨nr_1, ia_1, inw_1, asd_1, hC4, hF⟩ := ob4_e hF
        refine zV (pc := 33) (As := [.int p3]) (rest := []) (wr := []) (w2 := (wX9_alike cI cZ cM cS mo mst mpa mim mik mbi mbk mnr mia min mas mpr mfa mme mse deeds sd ent st nr_1 ia_1 inw_1 asd_1)) E (tX9_ofItself l D cI cZ cM cS mo mst mpa mim mik mbi mbk mnr mia min mas mpr mfa mme mse deeds sd ent st nr ia inw asd p3 hC4) 1 gX9_alike_X9_ofItself rfl rfl rfl (by decide +kernel) ⟨Nat.le_of_ble_eq_true rfl, Nat.le_of_ble_eq_true rfl⟩ hK hP hD hS hA [0, 1, 2, 3, 4, 5] [] [0, 1, 2, 3, 4, 5] (by decide) rfl rfl (by decide) (by decide) rfl (by decide) 0 9 rfl rfl rfl rfl hl.1 rfl (Nat.le_of_ble_eq_true rfl) dX9_alike_33 ⟨Nat.zero_le _, Nat.zero_le _⟩ (fun H locs hP hD hS => ?_)
        refine W.eq (g2 := F0 m 36 ls []) rfl ?_
        refine lv_aload_n (pc := 36) hx hb dX9_alike_36 rfl (lv_at hl 0 rfl) ?_
        refine va_get (pc := 37) (ci := 9) (C := RX9) (T := TX9) (N := 17) hx hb hts inX9 hown hK hP 0 rfl rfl 12 (by decide) fl38 (fun _ h9 => h9) rfl dX9_alike_37 ?_
        refine lv_iload_n (pc := 40) hx hb dX9_alike_40 rfl (lv_at hl 1 rfl) ?_
        obtain ⟨hg5, hF⟩ := ogd_e hF
        refine va_iald (pc := 41) hx hb hK hP 5 0 rfl rfl hg5 dX9_alike_41 ?_
        refine lv_aload_n (pc := 42) hx hb dX9_alike_42 rfl (lv_at hl 0 rfl) ?_
        refine va_get (pc := 43) (ci := 9) (C := RX9) (T := TX9) (N := 17) hx hb hts inX9 hown hK hP 0 rfl rfl 12 (by decide) fl38 (fun _ h9 => h9) rfl dX9_alike_43 ?_
        refine lv_iload_n (pc := 46) hx hb dX9_alike_46 rfl (lv_at hl 2 rfl) ?_
        obtain ⟨hg6, hF⟩ := ogd_e hF
        refine va_iald (pc := 47) hx hb hK hP 5 0 rfl rfl hg6 dX9_alike_47 ?_
        refine lv_icmp_ne (pc := 48) (tgt := 55) hx hb dX9_alike_48 (by decide) (fun hc => ?_) (fun hc => ?_)
        · have hF := oif_f hF hc
          refine lv_iconst (v := (0 : Int32)) (pc := 55) hx hb dX9_alike_55 (by decide) ?_
          cases hF
          exact hRet _ _ _ _ rfl dX9_alike_56 hP hD hS
        · have hF := oif_t hF hc
          refine lv_iconst (v := (1 : Int32)) (pc := 51) hx hb dX9_alike_51 (by decide) ?_
          refine lv_goto (pc := 52) (tgt := 56) hx hb dX9_alike_52 (by decide) ?_
          cases hF
          exact hRet _ _ _ _ rfl dX9_alike_56 hP hD hS
      · have hF := oif_t hF hc
        refine lv_ldc (v := (-1000000002 : Int32)) (pc := 28) hx hb hown cn94 dX9_alike_28 ?_
        cases hF
        exact hRet _ _ _ _ rfl dX9_alike_30 hP hD hS
    · have hF := oif_t hF hc
      refine lv_ldc (v := (-1000000001 : Int32)) (pc := 16) hx hb hown cn93 dX9_alike_16 ?_
      cases hF
      exact hRet _ _ _ _ rfl dX9_alike_18 hP hD hS
