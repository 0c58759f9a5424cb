def zStep (Inv : zXV → zMV → Prop) (fx : zXV → Option (Int32 × zXV)) (fm : zMV → Option (Int32 × zMV)) : Prop := ∀ X M, Inv X M → ∃ r X2 M2, fx X = some (r, X2) ∧ fm M = some (r, M2) ∧ Inv X2 M2
def x_keep (a : Int32) (X : zXV) : Option (Int32 × zXV) := if a = 0 then x_keep0 X else if a = 1 then x_keep1 X else x_keepx a X
def x_goBack (a : Int32) (X : zXV) : Option (Int32 × zXV) := if a = 0 then x_goBack0 X else if a = 1 then x_goBack1 X else x_goBackx a X
theorem wXX_0 {cI cZ cM cS : ClassId} {ad : Nat → Nat} {ra : Nat → zSA} {X : zXV} : (wXX cI cZ cM cS ad ra X)[0]? = some (ad 0, .inr (8, [.ref (ad 1), .ref (ad 7), .ref (ad 9), .ref (ad 12), .ref (ad 27), .ref (ad 30), .ref (ad 35), .ref (ad 37)])) := by
  obtain ⟨⟨sn, sl, sfin, swk, scols, snear, slds, qc, qf⟩, ⟨hnx, hct⟩, ⟨kn, kits, kcls⟩, ⟨k0, d0, ⟨man, mal, mafin, mawk, macols, manear, malds, nac, naf⟩⟩, ⟨k1, d1, ⟨mbn, mbl, mbfin, mbwk, mbcols, mbnear, mblds, nbc, nbf⟩⟩, ⟨bc, bf⟩, ⟨ord, earl, kc, kf⟩, ⟨zc, zf⟩, dst, rg⟩ := X
  rfl
theorem wMM_0 {cI cZ cM cS : ClassId} {ad : Nat → Nat} {M : zMV} : ∃ fs, (wMM cI cZ cM cS ad M)[0]? = some (ad 38, .inr (9, fs)) := by
  obtain ⟨⟨deeds, sd, ent⟩, ⟨st, past, img, kept, bits, bcls⟩, ⟨nr, ia, inw, asd, prs, far, met, sea⟩⟩ := M
  exact ⟨_, rfl⟩
theorem z_sld {p : Program} {l : Launch} {e : Env} {R : Room} {s : State} {m : MethodId} {args : Array Value} {below : List Frame} {meth : Method} {c : Code} {H : Heap} {locs : List Loc} {cells slots : Nat} {Q : State → Prop} {cc : ByteArray} {pc : Nat} {ls : Array Slot} {rest : List Value} {A : Nat → Prop} {H0 : Heap} (hexec : p.tables.exec = Jvm.exec) (hb : c.code = cc) {b L : Nat} {xs : Nat → Int32} (hX : va_X b L xs s H0) (hbl : b < H0.size) (hbA : ¬ A b) (hS : va_S A H0 H locs) {i : Int32} {j : Nat} (he : i = nI j) (hj : j < L) (hL : L ≤ 2048) (hdg : decode cc pc = .ok (.iaload, 1))
    (kk : W p l e R s m args below meth c H locs cells slots Q (F0 m (pc + 1) ls (.int (xs j) :: rest))) : W p l e R s m args below meth c H locs cells slots Q (F0 m pc ls (.int i :: .ref b :: rest)) := by
  subst he
  refine va_sld hexec hb hX hbl hbA hS (vp_in_nI hj (by omega)) hdg ?_
  rw [nI_clamp (show j < 2 ^ 31 by omega)]
  exact kk
set_option maxHeartbeats 4000000 in
set_option maxRecDepth 100000 in
theorem law_c0 {p : Program} {l : Launch} {e : Env} {s : State} {m : MethodId} {below : List Frame} {meth : Method} {c : Code} {D : va_G} {cI cZ cM cS : ClassId} {b L : Nat} {xs : Nat → Int32} {ad : Nat → Nat} {ra : Nat → zSA} {Q : State → Prop} (hx : p.tables.exec = Jvm.exec) (hb : c.code = cL_law) (hml : c.maxLocals = 4) (hown : s.vm.findClass RL = some m.cls) (hts : ∀ w ∈ wsL_law, w.before #[Value.ref b] s = true) (hX : va_X b L xs s s.heap) (hbl : b < s.heap.size) (hL : L ≤ 2048) (hK : va_K D vwCl (zTy cI cZ cM cS) s) {Inv : zXV → zMV → Prop} {i : Nat} (hi : i + 4 ≤ L) (next : ∀ (X : zXV) (M : zMV) (H : Heap) (locs : List Loc) (ls : Array Slot), Inv X M → va_P D vwCl (wXX cI cZ cM cS ad ra X ++ wMM cI cZ cM cS ad M) H → va_D (fun q : Nat => s.heap.size ≤ q) (wXX cI cZ cM cS ad ra X ++ wMM cI cZ cM cS ad M) → va_S (fun q : Nat => s.heap.size ≤ q) s.heap H locs → lv_has ls 4 [(0, .ref b), (1, .ref (ad 0)), (2, .ref (ad 38)), (3, .int (nI i))] → W p l e room_1 s m #[Value.ref b] below meth c H locs 600000 7302250 Q (F0 m 870 ls [])) {X : zXV} {M : zMV} {H : Heap} {locs : List Loc} {ls : Array Slot} (hI : Inv X M) (hst : zStep Inv (x_told (xs (i + 1))) (m_told (xs (i + 1)))) (hP : va_P D vwCl (wXX cI cZ cM cS ad ra X ++ wMM cI cZ cM cS ad M) H) (hD : va_D (fun q : Nat => s.heap.size ≤ q) (wXX cI cZ cM cS ad ra X ++ wMM cI cZ cM cS ad M)) (hS : va_S (fun q : Nat => s.heap.size ≤ q) s.heap H locs) (hl : lv_has ls 4 [(0, .ref b), (1, .ref (ad 0)), (2, .ref (ad 38)), (3, .int (nI i))]) : W p l e room_1 s m #[Value.ref b] below meth c H locs 600000 7302250 Q (F0 m 152 ls []) := by
  have E : CallFix p m c cL_law 4 s #[Value.ref b] wsL_law RL := ⟨hx, hb, hml, hown, hts⟩
  have hA : ∀ q : Nat, s.heap.size ≤ q → (fun q : Nat => s.heap.size ≤ q) q := fun _ h => h
  have hbA : ¬ (fun q : Nat => s.heap.size ≤ q) b := Nat.not_le.mpr hbl
  obtain ⟨r, X2, M2, h1, h2, h3⟩ := hst X M hI
  refine lv_aload_n (pc := 152) hx hb dL_law_152 rfl (lv_at hl 1 rfl) ?_
  refine lv_aload_n (pc := 153) hx hb dL_law_153 rfl (lv_at hl 0 rfl) ?_
  refine lv_iload_n (pc := 154) hx hb dL_law_154 rfl (lv_at hl 3 rfl) ?_
  refine lv_iconst (v := (1 : Int32)) (pc := 155) hx hb dL_law_155 (by decide) ?_
  refine lv_iadd (pc := 156) hx hb dL_law_156 ?_
  refine z_sld (pc := 157) (j := i + 1) hx hb hX hbl hbA hS (nI_add i 1) (by omega) hL dL_law_157 ?_
  refine zVP (pc := 158) (As := [.int (xs (i + 1))]) (rest := []) (wc := wXX cI cZ cM cS ad ra X) (w1 := wXX cI cZ cM cS ad ra X2) (wr := wMM cI cZ cM cS ad M) (w2 := (wXX cI cZ cM cS ad ra X2 ++ wMM cI cZ cM cS ad M)) E (zcon_x_told l D cI cZ cM cS ad ra (xs (i + 1)) X X2 r h1) 1 gL_law_X8_told rfl rfl rfl (by decide +kernel) ⟨Nat.le_of_ble_eq_true rfl, Nat.le_of_ble_eq_true rfl⟩ hK hP hD hS hA (List.Perm.refl _) (List.Perm.refl _) 0 8 rfl rfl wXX_0 rfl hl.1 rfl (Nat.le_of_ble_eq_true rfl) dL_law_158 ⟨Nat.le_of_ble_eq_true rfl, Nat.le_of_ble_eq_true rfl⟩ (fun H locs hP hD hS => ?_)
  refine W.eq (g2 := F0 m 161 ls [.int r]) rfl ?_
  refine lv_aload_n (pc := 161) hx hb dL_law_161 rfl (lv_at hl 2 rfl) ?_
  refine lv_aload_n (pc := 162) hx hb dL_law_162 rfl (lv_at hl 0 rfl) ?_
  refine lv_iload_n (pc := 163) hx hb dL_law_163 rfl (lv_at hl 3 rfl) ?_
  refine lv_iconst (v := (1 : Int32)) (pc := 164) hx hb dL_law_164 (by decide) ?_
  refine lv_iadd (pc := 165) hx hb dL_law_165 ?_
  refine z_sld (pc := 166) (j := i + 1) hx hb hX hbl hbA hS (nI_add i 1) (by omega) hL dL_law_166 ?_
  obtain ⟨fs, hfs⟩ := wMM_0 (cI := cI) (cZ := cZ) (cM := cM) (cS := cS) (ad := ad) (M := M)
  refine zVP (pc := 167) (As := [.int (xs (i + 1))]) (rest := [.int r]) (wc := wMM cI cZ cM cS ad M) (w1 := wMM cI cZ cM cS ad M2) (wr := wXX cI cZ cM cS ad ra X2) (w2 := (wXX cI cZ cM cS ad ra X2 ++ wMM cI cZ cM cS ad M2)) E (zcon_m_told l D cI cZ cM cS ad (xs (i + 1)) M M2 r h2) 1 gL_law_X9_told rfl rfl rfl (by decide +kernel) ⟨Nat.le_of_ble_eq_true rfl, Nat.le_of_ble_eq_true rfl⟩ hK hP hD hS hA List.perm_append_comm List.perm_append_comm 0 9 rfl rfl hfs rfl hl.1 rfl (Nat.le_of_ble_eq_true rfl) dL_law_167 ⟨Nat.le_of_ble_eq_true rfl, Nat.le_of_ble_eq_true rfl⟩ (fun H locs hP hD hS => ?_)
  refine W.eq (g2 := F0 m 170 ls [.int r, .int r]) rfl ?_
  refine lv_icmp_eq (pc := 170) (tgt := 870) hx hb dL_law_170 (by decide) (fun hc => ?_) (fun hc => absurd rfl hc)
  exact next X2 M2 H locs ls h3 hP hD hS hl
set_option maxHeartbeats 4000000 in
set_option maxRecDepth 100000 in
theorem law_c1 {p : Program} {l : Launch} {e : Env} {s : State} {m : MethodId} {below : List Frame} {meth : Method} {c : Code} {D : va_G} {cI cZ cM cS : ClassId} {b L : Nat} {xs : Nat → Int32} {ad : Nat → Nat} {ra : Nat → zSA} {Q : State → Prop} (hx : p.tables.exec = Jvm.exec) (hb : c.code = cL_law) (hml : c.maxLocals = 4) (hown : s.vm.findClass RL = some m.cls) (hts : ∀ w ∈ wsL_law, w.before #[Value.ref b] s = true) (hX : va_X b L xs s s.heap) (hbl : b < s.heap.size) (hL : L ≤ 2048) (hK : va_K D vwCl (zTy cI cZ cM cS) s) {Inv : zXV → zMV → Prop} {i : Nat} (hi : i + 4 ≤ L) (next : ∀ (X : zXV) (M : zMV) (H : Heap) (locs : List Loc) (ls : Array Slot), Inv X M → va_P D vwCl (wXX cI cZ cM cS ad ra X ++ wMM cI cZ cM cS ad M) H → va_D (fun q : Nat => s.heap.size ≤ q) (wXX cI cZ cM cS ad ra X ++ wMM cI cZ cM cS ad M) → va_S (fun q : Nat => s.heap.size ≤ q) s.heap H locs → lv_has ls 4 [(0, .ref b), (1, .ref (ad 0)), (2, .ref (ad 38)), (3, .int (nI i))] → W p l e room_1 s m #[Value.ref b] below meth c H locs 600000 7302250 Q (F0 m 870 ls [])) {X : zXV} {M : zMV} {H : Heap} {locs : List Loc} {ls : Array Slot} (hI : Inv X M) (hst : zStep Inv (x_item (xs (i + 1)) (xs (i + 2))) (m_item (xs (i + 1)) (xs (i + 2)))) (hP : va_P D vwCl (wXX cI cZ cM cS ad ra X ++ wMM cI cZ cM cS ad M) H) (hD : va_D (fun q : Nat => s.heap.size ≤ q) (wXX cI cZ cM cS ad ra X ++ wMM cI cZ cM cS ad M)) (hS : va_S (fun q : Nat => s.heap.size ≤ q) s.heap H locs) (hl : lv_has ls 4 [(0, .ref b), (1, .ref (ad 0)), (2, .ref (ad 38)), (3, .int (nI i))]) : W p l e room_1 s m #[Value.ref b] below meth c H locs 600000 7302250 Q (F0 m 175 ls []) := by
  have E : CallFix p m c cL_law 4 s #[Value.ref b] wsL_law RL := ⟨hx, hb, hml, hown, hts⟩
  have hA : ∀ q : Nat, s.heap.size ≤ q → (fun q : Nat => s.heap.size ≤ q) q := fun _ h => h
  have hbA : ¬ (fun q : Nat => s.heap.size ≤ q) b := Nat.not_le.mpr hbl
  obtain ⟨r, X2, M2, h1, h2, h3⟩ := hst X M hI
  refine lv_aload_n (pc := 175) hx hb dL_law_175 rfl (lv_at hl 1 rfl) ?_
  refine lv_aload_n (pc := 176) hx hb dL_law_176 rfl (lv_at hl 0 rfl) ?_
  refine lv_iload_n (pc := 177) hx hb dL_law_177 rfl (lv_at hl 3 rfl) ?_
  refine lv_iconst (v := (1 : Int32)) (pc := 178) hx hb dL_law_178 (by decide) ?_
  refine lv_iadd (pc := 179) hx hb dL_law_179 ?_
  refine z_sld (pc := 180) (j := i + 1) hx hb hX hbl hbA hS (nI_add i 1) (by omega) hL dL_law_180 ?_
  refine lv_aload_n (pc := 181) hx hb dL_law_181 rfl (lv_at hl 0 rfl) ?_
  refine lv_iload_n (pc := 182) hx hb dL_law_182 rfl (lv_at hl 3 rfl) ?_
  refine lv_iconst (v := (2 : Int32)) (pc := 183) hx hb dL_law_183 (by decide) ?_
  refine lv_iadd (pc := 184) hx hb dL_law_184 ?_
  refine z_sld (pc := 185) (j := i + 2) hx hb hX hbl hbA hS (nI_add i 2) (by omega) hL dL_law_185 ?_
  refine zVP (pc := 186) (As := [.int (xs (i + 1)), .int (xs (i + 2))]) (rest := []) (wc := wXX cI cZ cM cS ad ra X) (w1 := wXX cI cZ cM cS ad ra X2) (wr := wMM cI cZ cM cS ad M) (w2 := (wXX cI cZ cM cS ad ra X2 ++ wMM cI cZ cM cS ad M)) E (zcon_x_item l D cI cZ cM cS ad ra (xs (i + 1)) (xs (i + 2)) X X2 r h1) 2 gL_law_X8_item rfl rfl rfl (by decide +kernel) ⟨Nat.le_of_ble_eq_true rfl, Nat.le_of_ble_eq_true rfl⟩ hK hP hD hS hA (List.Perm.refl _) (List.Perm.refl _) 0 8 rfl rfl wXX_0 rfl hl.1 rfl (Nat.le_of_ble_eq_true rfl) dL_law_186 ⟨Nat.le_of_ble_eq_true rfl, Nat.le_of_ble_eq_true rfl⟩ (fun H locs hP hD hS => ?_)
  refine W.eq (g2 := F0 m 189 ls [.int r]) rfl ?_
  refine lv_aload_n (pc := 189) hx hb dL_law_189 rfl (lv_at hl 2 rfl) ?_
  refine lv_aload_n (pc := 190) hx hb dL_law_190 rfl (lv_at hl 0 rfl) ?_
  refine lv_iload_n (pc := 191) hx hb dL_law_191 rfl (lv_at hl 3 rfl) ?_
  refine lv_iconst (v := (1 : Int32)) (pc := 192) hx hb dL_law_192 (by decide) ?_
  refine lv_iadd (pc := 193) hx hb dL_law_193 ?_
  refine z_sld (pc := 194) (j := i + 1) hx hb hX hbl hbA hS (nI_add i 1) (by omega) hL dL_law_194 ?_
  refine lv_aload_n (pc := 195) hx hb dL_law_195 rfl (lv_at hl 0 rfl) ?_
  refine lv_iload_n (pc := 196) hx hb dL_law_196 rfl (lv_at hl 3 rfl) ?_
  refine lv_iconst (v := (2 : Int32)) (pc := 197) hx hb dL_law_197 (by decide) ?_
  refine lv_iadd (pc := 198) hx hb dL_law_198 ?_
  refine z_sld (pc := 199) (j := i + 2) hx hb hX hbl hbA hS (nI_add i 2) (by omega) hL dL_law_199 ?_
  obtain ⟨fs, hfs⟩ := wMM_0 (cI := cI) (cZ := cZ) (cM := cM) (cS := cS) (ad := ad) (M := M)
  refine zVP (pc := 200) (As := [.int (xs (i + 1)), .int (xs (i + 2))]) (rest := [.int r]) (wc := wMM cI cZ cM cS ad M) (w1 := wMM cI cZ cM cS ad M2) (wr := wXX cI cZ cM cS ad ra X2) (w2 := (wXX cI cZ cM cS ad ra X2 ++ wMM cI cZ cM cS ad M2)) E (zcon_m_item l D cI cZ cM cS ad (xs (i + 1)) (xs (i + 2)) M M2 r h2) 2 gL_law_X9_item rfl rfl rfl (by decide +kernel) ⟨Nat.le_of_ble_eq_true rfl, Nat.le_of_ble_eq_true rfl⟩ hK hP hD hS hA List.perm_append_comm List.perm_append_comm 0 9 rfl rfl hfs rfl hl.1 rfl (Nat.le_of_ble_eq_true rfl) dL_law_200 ⟨Nat.le_of_ble_eq_true rfl, Nat.le_of_ble_eq_true rfl⟩ (fun H locs hP hD hS => ?_)
  refine W.eq (g2 := F0 m 203 ls [.int r, .int r]) rfl ?_
  refine lv_icmp_eq (pc := 203) (tgt := 870) hx hb dL_law_203 (by decide) (fun hc => ?_) (fun hc => absurd rfl hc)
  exact next X2 M2 H locs ls h3 hP hD hS hl
set_option maxHeartbeats 4000000 in
set_option maxRecDepth 100000 in
theorem law_c2 {p : Program} {l : Launch} {e : Env} {s : State} {m : MethodId} {below : List Frame} {meth : Method} {c : Code} {D : va_G} {cI cZ cM cS : ClassId} {b L : Nat} {xs : Nat → Int32} {ad : Nat → Nat} {ra : Nat → zSA} {Q : State → Prop} (hx : p.tables.exec = Jvm.exec) (hb : c.code = cL_law) (hml : c.maxLocals = 4) (hown : s.vm.findClass RL = some m.cls) (hts : ∀ w ∈ wsL_law, w.before #[Value.ref b] s = true) (hX : va_X b L xs s s.heap) (hbl : b < s.heap.size) (hL : L ≤ 2048) (hK : va_K D vwCl (zTy cI cZ cM cS) s) {Inv : zXV → zMV → Prop} {i : Nat} (hi : i + 4 ≤ L) (next : ∀ (X : zXV) (M : zMV) (H : Heap) (locs : List Loc) (ls : Array Slot), Inv X M → va_P D vwCl (wXX cI cZ cM cS ad ra X ++ wMM cI cZ cM cS ad M) H → va_D (fun q : Nat => s.heap.size ≤ q) (wXX cI cZ cM cS ad ra X ++ wMM cI cZ cM cS ad M) → va_S (fun q : Nat => s.heap.size ≤ q) s.heap H locs → lv_has ls 4 [(0, .ref b), (1, .ref (ad 0)), (2, .ref (ad 38)), (3, .int (nI i))] → W p l e room_1 s m #[Value.ref b] below meth c H locs 600000 7302250 Q (F0 m 870 ls [])) {X : zXV} {M : zMV} {H : Heap} {locs : List Loc} {ls : Array Slot} (hI : Inv X M) (hst : zStep Inv (x_classAt (xs (i + 1))) (m_classAt (xs (i + 1)))) (hP : va_P D vwCl (wXX cI cZ cM cS ad ra X ++ wMM cI cZ cM cS ad M) H) (hD : va_D (fun q : Nat => s.heap.size ≤ q) (wXX cI cZ cM cS ad ra X ++ wMM cI cZ cM cS ad M)) (hS : va_S (fun q : Nat => s.heap.size ≤ q) s.heap H locs) (hl : lv_has ls 4 [(0, .ref b), (1, .ref (ad 0)), (2, .ref (ad 38)), (3, .int (nI i))]) : W p l e room_1 s m #[Value.ref b] below meth c H locs 600000 7302250 Q (F0 m 208 ls []) := by
  have E : CallFix p m c cL_law 4 s #[Value.ref b] wsL_law RL := ⟨hx, hb, hml, hown, hts⟩
  have hA : ∀ q : Nat, s.heap.size ≤ q → (fun q : Nat => s.heap.size ≤ q) q := fun _ h => h
  have hbA : ¬ (fun q : Nat => s.heap.size ≤ q) b := Nat.not_le.mpr hbl
  obtain ⟨r, X2, M2, h1, h2, h3⟩ := hst X M hI
  refine lv_aload_n (pc := 208) hx hb dL_law_208 rfl (lv_at hl 1 rfl) ?_
  refine lv_aload_n (pc := 209) hx hb dL_law_209 rfl (lv_at hl 0 rfl) ?_
  refine lv_iload_n (pc := 210) hx hb dL_law_210 rfl (lv_at hl 3 rfl) ?_
  refine lv_iconst (v := (1 : Int32)) (pc := 211) hx hb dL_law_211 (by decide) ?_
  refine lv_iadd (pc := 212) hx hb dL_law_212 ?_
  refine z_sld (pc := 213) (j := i + 1) hx hb hX hbl hbA hS (nI_add i 1) (by omega) hL dL_law_213 ?_
  refine zVP (pc := 214) (As := [.int (xs (i + 1))]) (rest := []) (wc := wXX cI cZ cM cS ad ra X) (w1 := wXX cI cZ cM cS ad ra X2) (wr := wMM cI cZ cM cS ad M) (w2 := (wXX cI cZ cM cS ad ra X2 ++ wMM cI cZ cM cS ad M)) E (zcon_x_classAt l D cI cZ cM cS ad ra (xs (i + 1)) X X2 r h1) 1 gL_law_X8_classAt rfl rfl rfl (by decide +kernel) ⟨Nat.le_of_ble_eq_true rfl, Nat.le_of_ble_eq_true rfl⟩ hK hP hD hS hA (List.Perm.refl _) (List.Perm.refl _) 0 8 rfl rfl wXX_0 rfl hl.1 rfl (Nat.le_of_ble_eq_true rfl) dL_law_214 ⟨Nat.le_of_ble_eq_true rfl, Nat.le_of_ble_eq_true rfl⟩ (fun H locs hP hD hS => ?_)
  refine W.eq (g2 := F0 m 217 ls [.int r]) rfl ?_
  refine lv_aload_n (pc := 217) hx hb dL_law_217 rfl (lv_at hl 2 rfl) ?_
  refine lv_aload_n (pc := 218) hx hb dL_law_218 rfl (lv_at hl 0 rfl) ?_
  refine lv_iload_n (pc := 219) hx hb dL_law_219 rfl (lv_at hl 3 rfl) ?_
  refine lv_iconst (v := (1 : Int32)) (pc := 220) hx hb dL_law_220 (by decide) ?_
  refine lv_iadd (pc := 221) hx hb dL_law_221 ?_
  refine z_sld (pc := 222) (j := i + 1) hx hb hX hbl hbA hS (nI_add i 1) (by omega) hL dL_law_222 ?_
  obtain ⟨fs, hfs⟩ := wMM_0 (cI := cI) (cZ := cZ) (cM := cM) (cS := cS) (ad := ad) (M := M)
  refine zVP (pc := 223) (As := [.int (xs (i + 1))]) (rest := [.int r]) (wc := wMM cI cZ cM cS ad M) (w1 := wMM cI cZ cM cS ad M2) (wr := wXX cI cZ cM cS ad ra X2) (w2 := (wXX cI cZ cM cS ad ra X2 ++ wMM cI cZ cM cS ad M2)) E (zcon_m_classAt l D cI cZ cM cS ad (xs (i + 1)) M M2 r h2) 1 gL_law_X9_classAt rfl rfl rfl (by decide +kernel) ⟨Nat.le_of_ble_eq_true rfl, Nat.le_of_ble_eq_true rfl⟩ hK hP hD hS hA List.perm_append_comm List.perm_append_comm 0 9 rfl rfl hfs rfl hl.1 rfl (Nat.le_of_ble_eq_true rfl) dL_law_223 ⟨Nat.le_of_ble_eq_true rfl, Nat.le_of_ble_eq_true rfl⟩ (fun H locs hP hD hS => ?_)
  refine W.eq (g2 := F0 m 226 ls [.int r, .int r]) rfl ?_
  refine lv_icmp_eq (pc := 226) (tgt := 870) hx hb dL_law_226 (by decide) (fun hc => ?_) (fun hc => absurd rfl hc)
  exact next X2 M2 H locs ls h3 hP hD hS hl
set_option maxHeartbeats 4000000 in
set_option maxRecDepth 100000 in
theorem law_c3 {p : Program} {l : Launch} {e : Env} {s : State} {m : MethodId} {below : List Frame} {meth : Method} {c : Code} {D : va_G} {cI cZ cM cS : ClassId} {b L : Nat} {xs : Nat → Int32} {ad : Nat → Nat} {ra : Nat → zSA} {Q : State → Prop} (hx : p.tables.exec = Jvm.exec) (hb : c.code = cL_law) (hml : c.maxLocals = 4) (hown : s.vm.findClass RL = some m.cls) (hts : ∀ w ∈ wsL_law, w.before #[Value.ref b] s = true) (hX : va_X b L xs s s.heap) (hbl : b < s.heap.size) (hL : L ≤ 2048) (hK : va_K D vwCl (zTy cI cZ cM cS) s) {Inv : zXV → zMV → Prop} {i : Nat} (hi : i + 4 ≤ L) (next : ∀ (X : zXV) (M : zMV) (H : Heap) (locs : List Loc) (ls : Array Slot), Inv X M → va_P D vwCl (wXX cI cZ cM cS ad ra X ++ wMM cI cZ cM cS ad M) H → va_D (fun q : Nat => s.heap.size ≤ q) (wXX cI cZ cM cS ad ra X ++ wMM cI cZ cM cS ad M) → va_S (fun q : Nat => s.heap.size ≤ q) s.heap H locs → lv_has ls 4 [(0, .ref b), (1, .ref (ad 0)), (2, .ref (ad 38)), (3, .int (nI i))] → W p l e room_1 s m #[Value.ref b] below meth c H locs 600000 7302250 Q (F0 m 870 ls [])) {X : zXV} {M : zMV} {H : Heap} {locs : List Loc} {ls : Array Slot} (hI : Inv X M) (hst : zStep Inv (x_setBy (xs (i + 1)) (xs (i + 2)) (xs (i + 3))) (m_setBy (xs (i + 1)) (xs (i + 2)) (xs (i + 3)))) (hP : va_P D vwCl (wXX cI cZ cM cS ad ra X ++ wMM cI cZ cM cS ad M) H) (hD : va_D (fun q : Nat => s.heap.size ≤ q) (wXX cI cZ cM cS ad ra X ++ wMM cI cZ cM cS ad M)) (hS : va_S (fun q : Nat => s.heap.size ≤ q) s.heap H locs) (hl : lv_has ls 4 [(0, .ref b), (1, .ref (ad 0)), (2, .ref (ad 38)), (3, .int (nI i))]) : W p l e room_1 s m #[Value.ref b] below meth c H locs 600000 7302250 Q (F0 m 231 ls []) := by
  have E : CallFix p m c cL_law 4 s #[Value.ref b] wsL_law RL := ⟨hx, hb, hml, hown, hts⟩
  have hA : ∀ q : Nat, s.heap.size ≤ q → (fun q : Nat => s.heap.size ≤ q) q := fun _ h => h
  have hbA : ¬ (fun q : Nat => s.heap.size ≤ q) b := Nat.not_le.mpr hbl
  obtain ⟨r, X2, M2, h1, h2, h3⟩ := hst X M hI
  refine lv_aload_n (pc := 231) hx hb dL_law_231 rfl (lv_at hl 1 rfl) ?_
  refine lv_aload_n (pc := 232) hx hb dL_law_232 rfl (lv_at hl 0 rfl) ?_
  refine lv_iload_n (pc := 233) hx hb dL_law_233 rfl (lv_at hl 3 rfl) ?_
  refine lv_iconst (v := (1 : Int32)) (pc := 234) hx hb dL_law_234 (by decide) ?_
  refine lv_iadd (pc := 235) hx hb dL_law_235 ?_
  refine z_sld (pc := 236) (j := i + 1) hx hb hX hbl hbA hS (nI_add i 1) (by omega) hL dL_law_236 ?_
  refine lv_aload_n (pc := 237) hx hb dL_law_237 rfl (lv_at hl 0 rfl) ?_
  refine lv_iload_n (pc := 238) hx hb dL_law_238 rfl (lv_at hl 3 rfl) ?_
  refine lv_iconst (v := (2 : Int32)) (pc := 239) hx hb dL_law_239 (by decide) ?_
  refine lv_iadd (pc := 240) hx hb dL_law_240 ?_
  refine z_sld (pc := 241) (j := i + 2) hx hb hX hbl hbA hS (nI_add i 2) (by omega) hL dL_law_241 ?_
  refine lv_aload_n (pc := 242) hx hb dL_law_242 rfl (lv_at hl 0 rfl) ?_
  refine lv_iload_n (pc := 243) hx hb dL_law_243 rfl (lv_at hl 3 rfl) ?_
  refine lv_iconst (v := (3 : Int32)) (pc := 244) hx hb dL_law_244 (by decide) ?_
  refine lv_iadd (pc := 245) hx hb dL_law_245 ?_
  refine z_sld (pc := 246) (j := i + 3) hx hb hX hbl hbA hS (nI_add i 3) (by omega) hL dL_law_246 ?_
  refine zVP (pc := 247) (As := [.int (xs (i + 1)), .int (xs (i + 2)), .int (xs (i + 3))]) (rest := []) (wc := wXX cI cZ cM cS ad ra X) (w1 := wXX cI cZ cM cS ad ra X2) (wr := wMM cI cZ cM cS ad M) (w2 := (wXX cI cZ cM cS ad ra X2 ++ wMM cI cZ cM cS ad M)) E (zcon_x_setBy l D cI cZ cM cS ad ra (xs (i + 1)) (xs (i + 2)) (xs (i + 3)) X X2 r h1) 3 gL_law_X8_setBy rfl rfl rfl (by decide +kernel) ⟨Nat.le_of_ble_eq_true rfl, Nat.le_of_ble_eq_true rfl⟩ hK hP hD hS hA (List.Perm.refl _) (List.Perm.refl _) 0 8 rfl rfl wXX_0 rfl hl.1 rfl (Nat.le_of_ble_eq_true rfl) dL_law_247 ⟨Nat.le_of_ble_eq_true rfl, Nat.le_of_ble_eq_true rfl⟩ (fun H locs hP hD hS => ?_)
  refine W.eq (g2 := F0 m 250 ls [.int r]) rfl ?_
  refine lv_aload_n (pc := 250) hx hb dL_law_250 rfl (lv_at hl 2 rfl) ?_
  refine lv_aload_n (pc := 251) hx hb dL_law_251 rfl (lv_at hl 0 rfl) ?_
  refine lv_iload_n (pc := 252) hx hb dL_law_252 rfl (lv_at hl 3 rfl) ?_
  refine lv_iconst (v := (1 : Int32)) (pc := 253) hx hb dL_law_253 (by decide) ?_
  refine lv_iadd (pc := 254) hx hb dL_law_254 ?_
  refine z_sld (pc := 255) (j := i + 1) hx hb hX hbl hbA hS (nI_add i 1) (by omega) hL dL_law_255 ?_
  refine lv_aload_n (pc := 256) hx hb dL_law_256 rfl (lv_at hl 0 rfl) ?_
  refine lv_iload_n (pc := 257) hx hb dL_law_257 rfl (lv_at hl 3 rfl) ?_
  refine lv_iconst (v := (2 : Int32)) (pc := 258) hx hb dL_law_258 (by decide) ?_
  refine lv_iadd (pc := 259) hx hb dL_law_259 ?_
  refine z_sld (pc := 260) (j := i + 2) hx hb hX hbl hbA hS (nI_add i 2) (by omega) hL dL_law_260 ?_
  refine lv_aload_n (pc := 261) hx hb dL_law_261 rfl (lv_at hl 0 rfl) ?_
  refine lv_iload_n (pc := 262) hx hb dL_law_262 rfl (lv_at hl 3 rfl) ?_
  refine lv_iconst (v := (3 : Int32)) (pc := 263) hx hb dL_law_263 (by decide) ?_
  refine lv_iadd (pc := 264) hx hb dL_law_264 ?_
  refine z_sld (pc := 265) (j := i + 3) hx hb hX hbl hbA hS (nI_add i 3) (by omega) hL dL_law_265 ?_
  obtain ⟨fs, hfs⟩ := wMM_0 (cI := cI) (cZ := cZ) (cM := cM) (cS := cS) (ad := ad) (M := M)
  refine zVP (pc := 266) (As := [.int (xs (i + 1)), .int (xs (i + 2)), .int (xs (i + 3))]) (rest := [.int r]) (wc := wMM cI cZ cM cS ad M) (w1 := wMM cI cZ cM cS ad M2) (wr := wXX cI cZ cM cS ad ra X2) (w2 := (wXX cI cZ cM cS ad ra X2 ++ wMM cI cZ cM cS ad M2)) E (zcon_m_setBy l D cI cZ cM cS ad (xs (i + 1)) (xs (i + 2)) (xs (i + 3)) M M2 r h2) 3 gL_law_X9_setBy rfl rfl rfl (by decide +kernel) ⟨Nat.le_of_ble_eq_true rfl, Nat.le_of_ble_eq_true rfl⟩ hK hP hD hS hA List.perm_append_comm List.perm_append_comm 0 9 rfl rfl hfs rfl hl.1 rfl (Nat.le_of_ble_eq_true rfl) dL_law_266 ⟨Nat.le_of_ble_eq_true rfl, Nat.le_of_ble_eq_true rfl⟩ (fun H locs hP hD hS => ?_)
  refine W.eq (g2 := F0 m 269 ls [.int r, .int r]) rfl ?_
  refine lv_icmp_eq (pc := 269) (tgt := 870) hx hb dL_law_269 (by decide) (fun hc => ?_) (fun hc => absurd rfl hc)
  exact next X2 M2 H locs ls h3 hP hD hS hl
set_option maxHeartbeats 4000000 in
set_option maxRecDepth 100000 in
theorem law_c4 {p : Program} {l : Launch} {e : Env} {s : State} {m : MethodId} {below : List Frame} {meth : Method} {c : Code} {D : va_G} {cI cZ cM cS : ClassId} {b L : Nat} {xs : Nat → Int32} {ad : Nat → Nat} {ra : Nat → zSA} {Q : State → Prop} (hx : p.tables.exec = Jvm.exec) (hb : c.code = cL_law) (hml : c.maxLocals = 4) (hown : s.vm.findClass RL = some m.cls) (hts : ∀ w ∈ wsL_law, w.before #[Value.ref b] s = true) (hX : va_X b L xs s s.heap) (hbl : b < s.heap.size) (hL : L ≤ 2048) (hK : va_K D vwCl (zTy cI cZ cM cS) s) {Inv : zXV → zMV → Prop} {i : Nat} (hi : i + 4 ≤ L) (next : ∀ (X : zXV) (M : zMV) (H : Heap) (locs : List Loc) (ls : Array Slot), Inv X M → va_P D vwCl (wXX cI cZ cM cS ad ra X ++ wMM cI cZ cM cS ad M) H → va_D (fun q : Nat => s.heap.size ≤ q) (wXX cI cZ cM cS ad ra X ++ wMM cI cZ cM cS ad M) → va_S (fun q : Nat => s.heap.size ≤ q) s.heap H locs → lv_has ls 4 [(0, .ref b), (1, .ref (ad 0)), (2, .ref (ad 38)), (3, .int (nI i))] → W p l e room_1 s m #[Value.ref b] below meth c H locs 600000 7302250 Q (F0 m 870 ls [])) {X : zXV} {M : zMV} {H : Heap} {locs : List Loc} {ls : Array Slot} (hI : Inv X M) (hst : zStep Inv (x_alike (xs (i + 1)) (xs (i + 2)) (xs (i + 3))) (m_alike (xs (i + 1)) (xs (i + 2)) (xs (i + 3)))) (hP : va_P D vwCl (wXX cI cZ cM cS ad ra X ++ wMM cI cZ cM cS ad M) H) (hD : va_D (fun q : Nat => s.heap.size ≤ q) (wXX cI cZ cM cS ad ra X ++ wMM cI cZ cM cS ad M)) (hS : va_S (fun q : Nat => s.heap.size ≤ q) s.heap H locs) (hl : lv_has ls 4 [(0, .ref b), (1, .ref (ad 0)), (2, .ref (ad 38)), (3, .int (nI i))]) : W p l e room_1 s m #[Value.ref b] below meth c H locs 600000 7302250 Q (F0 m 274 ls []) := by
  have E : CallFix p m c cL_law 4 s #[Value.ref b] wsL_law RL := ⟨hx, hb, hml, hown, hts⟩
  have hA : ∀ q : Nat, s.heap.size ≤ q → (fun q : Nat => s.heap.size ≤ q) q := fun _ h => h
  have hbA : ¬ (fun q : Nat => s.heap.size ≤ q) b := Nat.not_le.mpr hbl
  obtain ⟨r, X2, M2, h1, h2, h3⟩ := hst X M hI
  refine lv_aload_n (pc := 274) hx hb dL_law_274 rfl (lv_at hl 1 rfl) ?_
  refine lv_aload_n (pc := 275) hx hb dL_law_275 rfl (lv_at hl 0 rfl) ?_
  refine lv_iload_n (pc := 276) hx hb dL_law_276 rfl (lv_at hl 3 rfl) ?_
  refine lv_iconst (v := (1 : Int32)) (pc := 277) hx hb dL_law_277 (by decide) ?_
  refine lv_iadd (pc := 278) hx hb dL_law_278 ?_
  refine z_sld (pc := 279) (j := i + 1) hx hb hX hbl hbA hS (nI_add i 1) (by omega) hL dL_law_279 ?_
  refine lv_aload_n (pc := 280) hx hb dL_law_280 rfl (lv_at hl 0 rfl) ?_
  refine lv_iload_n (pc := 281) hx hb dL_law_281 rfl (lv_at hl 3 rfl) ?_
  refine lv_iconst (v := (2 : Int32)) (pc := 282) hx hb dL_law_282 (by decide) ?_
  refine lv_iadd (pc := 283) hx hb dL_law_283 ?_
  refine z_sld (pc := 284) (j := i + 2) hx hb hX hbl hbA hS (nI_add i 2) (by omega) hL dL_law_284 ?_
  refine lv_aload_n (pc := 285) hx hb dL_law_285 rfl (lv_at hl 0 rfl) ?_
  refine lv_iload_n (pc := 286) hx hb dL_law_286 rfl (lv_at hl 3 rfl) ?_
  refine lv_iconst (v := (3 : Int32)) (pc := 287) hx hb dL_law_287 (by decide) ?_
  refine lv_iadd (pc := 288) hx hb dL_law_288 ?_
  refine z_sld (pc := 289) (j := i + 3) hx hb hX hbl hbA hS (nI_add i 3) (by omega) hL dL_law_289 ?_
  refine zVP (pc := 290) (As := [.int (xs (i + 1)), .int (xs (i + 2)), .int (xs (i + 3))]) (rest := []) (wc := wXX cI cZ cM cS ad ra X) (w1 := wXX cI cZ cM cS ad ra X2) (wr := wMM cI cZ cM cS ad M) (w2 := (wXX cI cZ cM cS ad ra X2 ++ wMM cI cZ cM cS ad M)) E (zcon_x_alike l D cI cZ cM cS ad ra (xs (i + 1)) (xs (i + 2)) (xs (i + 3)) X X2 r h1) 3 gL_law_X8_alike rfl rfl rfl (by decide +kernel) ⟨Nat.le_of_ble_eq_true rfl, Nat.le_of_ble_eq_true rfl⟩ hK hP hD hS hA (List.Perm.refl _) (List.Perm.refl _) 0 8 rfl rfl wXX_0 rfl hl.1 rfl (Nat.le_of_ble_eq_true rfl) dL_law_290 ⟨Nat.le_of_ble_eq_true rfl, Nat.le_of_ble_eq_true rfl⟩ (fun H locs hP hD hS => ?_)
  refine W.eq (g2 := F0 m 293 ls [.int r]) rfl ?_
  refine lv_aload_n (pc := 293) hx hb dL_law_293 rfl (lv_at hl 2 rfl) ?_
  refine lv_aload_n (pc := 294) hx hb dL_law_294 rfl (lv_at hl 0 rfl) ?_
  refine lv_iload_n (pc := 295) hx hb dL_law_295 rfl (lv_at hl 3 rfl) ?_
  refine lv_iconst (v := (1 : Int32)) (pc := 296) hx hb dL_law_296 (by decide) ?_
  refine lv_iadd (pc := 297) hx hb dL_law_297 ?_
  refine z_sld (pc := 298) (j := i + 1) hx hb hX hbl hbA hS (nI_add i 1) (by omega) hL dL_law_298 ?_
  refine lv_aload_n (pc := 299) hx hb dL_law_299 rfl (lv_at hl 0 rfl) ?_
  refine lv_iload_n (pc := 300) hx hb dL_law_300 rfl (lv_at hl 3 rfl) ?_
  refine lv_iconst (v := (2 : Int32)) (pc := 301) hx hb dL_law_301 (by decide) ?_
  refine lv_iadd (pc := 302) hx hb dL_law_302 ?_
  refine z_sld (pc := 303) (j := i + 2) hx hb hX hbl hbA hS (nI_add i 2) (by omega) hL dL_law_303 ?_
  refine lv_aload_n (pc := 304) hx hb dL_law_304 rfl (lv_at hl 0 rfl) ?_
  refine lv_iload_n (pc := 305) hx hb dL_law_305 rfl (lv_at hl 3 rfl) ?_
  refine lv_iconst (v := (3 : Int32)) (pc := 306) hx hb dL_law_306 (by decide) ?_
  refine lv_iadd (pc := 307) hx hb dL_law_307 ?_
  refine z_sld (pc := 308) (j := i + 3) hx hb hX hbl hbA hS (nI_add i 3) (by omega) hL dL_law_308 ?_
  obtain ⟨fs, hfs⟩ := wMM_0 (cI := cI) (cZ := cZ) (cM := cM) (cS := cS) (ad := ad) (M := M)
  refine zVP (pc := 309) (As := [.int (xs (i + 1)), .int (xs (i + 2)), .int (xs (i + 3))]) (rest := [.int r]) (wc := wMM cI cZ cM cS ad M) (w1 := wMM cI cZ cM cS ad M2) (wr := wXX cI cZ cM cS ad ra X2) (w2 := (wXX cI cZ cM cS ad ra X2 ++ wMM cI cZ cM cS ad M2)) E (zcon_m_alike l D cI cZ cM cS ad (xs (i + 1)) (xs (i + 2)) (xs (i + 3)) M M2 r h2) 3 gL_law_X9_alike rfl rfl rfl (by decide +kernel) ⟨Nat.le_of_ble_eq_true rfl, Nat.le_of_ble_eq_true rfl⟩ hK hP hD hS hA List.perm_append_comm List.perm_append_comm 0 9 rfl rfl hfs rfl hl.1 rfl (Nat.le_of_ble_eq_true rfl) dL_law_309 ⟨Nat.le_of_ble_eq_true rfl, Nat.le_of_ble_eq_true rfl⟩ (fun H locs hP hD hS => ?_)
  refine W.eq (g2 := F0 m 312 ls [.int r, .int r]) rfl ?_
  refine lv_icmp_eq (pc := 312) (tgt := 870) hx hb dL_law_312 (by decide) (fun hc => ?_) (fun hc => absurd rfl hc)
  exact next X2 M2 H locs ls h3 hP hD hS hl
set_option maxHeartbeats 4000000 in
set_option maxRecDepth 100000 in
theorem law_c5 {p : Program} {l : Launch} {e : Env} {s : State} {m : MethodId} {below : List Frame} {meth : Method} {c : Code} {D : va_G} {cI cZ cM cS : ClassId} {b L : Nat} {xs : Nat → Int32} {ad : Nat → Nat} {ra : Nat → zSA} {Q : State → Prop} (hx : p.tables.exec = Jvm.exec) (hb : c.code = cL_law) (hml : c.maxLocals = 4) (hown : s.vm.findClass RL = some m.cls) (hts : ∀ w ∈ wsL_law, w.before #[Value.ref b] s = true) (hX : va_X b L xs s s.heap) (hbl : b < s.heap.size) (hL : L ≤ 2048) (hK : va_K D vwCl (zTy cI cZ cM cS) s) {Inv : zXV → zMV → Prop} {i : Nat} (hi : i + 4 ≤ L) (next : ∀ (X : zXV) (M : zMV) (H : Heap) (locs : List Loc) (ls : Array Slot), Inv X M → va_P D vwCl (wXX cI cZ cM cS ad ra X ++ wMM cI cZ cM cS ad M) H → va_D (fun q : Nat => s.heap.size ≤ q) (wXX cI cZ cM cS ad ra X ++ wMM cI cZ cM cS ad M) → va_S (fun q : Nat => s.heap.size ≤ q) s.heap H locs → lv_has ls 4 [(0, .ref b), (1, .ref (ad 0)), (2, .ref (ad 38)), (3, .int (nI i))] → W p l e room_1 s m #[Value.ref b] below meth c H locs 600000 7302250 Q (F0 m 870 ls [])) {X : zXV} {M : zMV} {H : Heap} {locs : List Loc} {ls : Array Slot} (hI : Inv X M) (hst : zStep Inv (x_apart (xs (i + 1)) (xs (i + 2))) (m_apart (xs (i + 1)) (xs (i + 2)))) (hP : va_P D vwCl (wXX cI cZ cM cS ad ra X ++ wMM cI cZ cM cS ad M) H) (hD : va_D (fun q : Nat => s.heap.size ≤ q) (wXX cI cZ cM cS ad ra X ++ wMM cI cZ cM cS ad M)) (hS : va_S (fun q : Nat => s.heap.size ≤ q) s.heap H locs) (hl : lv_has ls 4 [(0, .ref b), (1, .ref (ad 0)), (2, .ref (ad 38)), (3, .int (nI i))]) : W p l e room_1 s m #[Value.ref b] below meth c H locs 600000 7302250 Q (F0 m 317 ls []) := by
  have E : CallFix p m c cL_law 4 s #[Value.ref b] wsL_law RL := ⟨hx, hb, hml, hown, hts⟩
  have hA : ∀ q : Nat, s.heap.size ≤ q → (fun q : Nat => s.heap.size ≤ q) q := fun _ h => h
  have hbA : ¬ (fun q : Nat => s.heap.size ≤ q) b := Nat.not_le.mpr hbl
  obtain ⟨r, X2, M2, h1, h2, h3⟩ := hst X M hI
  refine lv_aload_n (pc := 317) hx hb dL_law_317 rfl (lv_at hl 1 rfl) ?_
  refine lv_aload_n (pc := 318) hx hb dL_law_318 rfl (lv_at hl 0 rfl) ?_
  refine lv_iload_n (pc := 319) hx hb dL_law_319 rfl (lv_at hl 3 rfl) ?_
  refine lv_iconst (v := (1 : Int32)) (pc := 320) hx hb dL_law_320 (by decide) ?_
  refine lv_iadd (pc := 321) hx hb dL_law_321 ?_
  refine z_sld (pc := 322) (j := i + 1) hx hb hX hbl hbA hS (nI_add i 1) (by omega) hL dL_law_322 ?_
  refine lv_aload_n (pc := 323) hx hb dL_law_323 rfl (lv_at hl 0 rfl) ?_
  refine lv_iload_n (pc := 324) hx hb dL_law_324 rfl (lv_at hl 3 rfl) ?_
  refine lv_iconst (v := (2 : Int32)) (pc := 325) hx hb dL_law_325 (by decide) ?_
  refine lv_iadd (pc := 326) hx hb dL_law_326 ?_
  refine z_sld (pc := 327) (j := i + 2) hx hb hX hbl hbA hS (nI_add i 2) (by omega) hL dL_law_327 ?_
  refine zVP (pc := 328) (As := [.int (xs (i + 1)), .int (xs (i + 2))]) (rest := []) (wc := wXX cI cZ cM cS ad ra X) (w1 := wXX cI cZ cM cS ad ra X2) (wr := wMM cI cZ cM cS ad M) (w2 := (wXX cI cZ cM cS ad ra X2 ++ wMM cI cZ cM cS ad M)) E (zcon_x_apart l D cI cZ cM cS ad ra (xs (i + 1)) (xs (i + 2)) X X2 r h1) 2 gL_law_X8_apart rfl rfl rfl (by decide +kernel) ⟨Nat.le_of_ble_eq_true rfl, Nat.le_of_ble_eq_true rfl⟩ hK hP hD hS hA (List.Perm.refl _) (List.Perm.refl _) 0 8 rfl rfl wXX_0 rfl hl.1 rfl (Nat.le_of_ble_eq_true rfl) dL_law_328 ⟨Nat.le_of_ble_eq_true rfl, Nat.le_of_ble_eq_true rfl⟩ (fun H locs hP hD hS => ?_)
  refine W.eq (g2 := F0 m 331 ls [.int r]) rfl ?_
  refine lv_aload_n (pc := 331) hx hb dL_law_331 rfl (lv_at hl 2 rfl) ?_
  refine lv_aload_n (pc := 332) hx hb dL_law_332 rfl (lv_at hl 0 rfl) ?_
  refine lv_iload_n (pc := 333) hx hb dL_law_333 rfl (lv_at hl 3 rfl) ?_
  refine lv_iconst (v := (1 : Int32)) (pc := 334) hx hb dL_law_334 (by decide) ?_
  refine lv_iadd (pc := 335) hx hb dL_law_335 ?_
  refine z_sld (pc := 336) (j := i + 1) hx hb hX hbl hbA hS (nI_add i 1) (by omega) hL dL_law_336 ?_
  refine lv_aload_n (pc := 337) hx hb dL_law_337 rfl (lv_at hl 0 rfl) ?_
  refine lv_iload_n (pc := 338) hx hb dL_law_338 rfl (lv_at hl 3 rfl) ?_
  refine lv_iconst (v := (2 : Int32)) (pc := 339) hx hb dL_law_339 (by decide) ?_
  refine lv_iadd (pc := 340) hx hb dL_law_340 ?_
  refine z_sld (pc := 341) (j := i + 2) hx hb hX hbl hbA hS (nI_add i 2) (by omega) hL dL_law_341 ?_
  obtain ⟨fs, hfs⟩ := wMM_0 (cI := cI) (cZ := cZ) (cM := cM) (cS := cS) (ad := ad) (M := M)
  refine zVP (pc := 342) (As := [.int (xs (i + 1)), .int (xs (i + 2))]) (rest := [.int r]) (wc := wMM cI cZ cM cS ad M) (w1 := wMM cI cZ cM cS ad M2) (wr := wXX cI cZ cM cS ad ra X2) (w2 := (wXX cI cZ cM cS ad ra X2 ++ wMM cI cZ cM cS ad M2)) E (zcon_m_apart l D cI cZ cM cS ad (xs (i + 1)) (xs (i + 2)) M M2 r h2) 2 gL_law_X9_apart rfl rfl rfl (by decide +kernel) ⟨Nat.le_of_ble_eq_true rfl, Nat.le_of_ble_eq_true rfl⟩ hK hP hD hS hA List.perm_append_comm List.perm_append_comm 0 9 rfl rfl hfs rfl hl.1 rfl (Nat.le_of_ble_eq_true rfl) dL_law_342 ⟨Nat.le_of_ble_eq_true rfl, Nat.le_of_ble_eq_true rfl⟩ (fun H locs hP hD hS => ?_)
  refine W.eq (g2 := F0 m 345 ls [.int r, .int r]) rfl ?_
  refine lv_icmp_eq (pc := 345) (tgt := 870) hx hb dL_law_345 (by decide) (fun hc => ?_) (fun hc => absurd rfl hc)
  exact next X2 M2 H locs ls h3 hP hD hS hl
set_option maxHeartbeats 4000000 in
set_option maxRecDepth 100000 in
theorem law_c6 {p : Program} {l : Launch} {e : Env} {s : State} {m : MethodId} {below : List Frame} {meth : Method} {c : Code} {D : va_G} {cI cZ cM cS : ClassId} {b L : Nat} {xs : Nat → Int32} {ad : Nat → Nat} {ra : Nat → zSA} {Q : State → Prop} (hx : p.tables.exec = Jvm.exec) (hb : c.code = cL_law) (hml : c.maxLocals = 4) (hown : s.vm.findClass RL = some m.cls) (hts : ∀ w ∈ wsL_law, w.before #[Value.ref b] s = true) (hX : va_X b L xs s s.heap) (hbl : b < s.heap.size) (hL : L ≤ 2048) (hK : va_K D vwCl (zTy cI cZ cM cS) s) {Inv : zXV → zMV → Prop} {i : Nat} (hi : i + 4 ≤ L) (next : ∀ (X : zXV) (M : zMV) (H : Heap) (locs : List Loc) (ls : Array Slot), Inv X M → va_P D vwCl (wXX cI cZ cM cS ad ra X ++ wMM cI cZ cM cS ad M) H → va_D (fun q : Nat => s.heap.size ≤ q) (wXX cI cZ cM cS ad ra X ++ wMM cI cZ cM cS ad M) → va_S (fun q : Nat => s.heap.size ≤ q) s.heap H locs → lv_has ls 4 [(0, .ref b), (1, .ref (ad 0)), (2, .ref (ad 38)), (3, .int (nI i))] → W p l e room_1 s m #[Value.ref b] below meth c H locs 600000 7302250 Q (F0 m 870 ls [])) {X : zXV} {M : zMV} {H : Heap} {locs : List Loc} {ls : Array Slot} (hI : Inv X M) (hst : zStep Inv (x_search (xs (i + 1)) (xs (i + 2))) (m_search (xs (i + 1)) (xs (i + 2)))) (hP : va_P D vwCl (wXX cI cZ cM cS ad ra X ++ wMM cI cZ cM cS ad M) H) (hD : va_D (fun q : Nat => s.heap.size ≤ q) (wXX cI cZ cM cS ad ra X ++ wMM cI cZ cM cS ad M)) (hS : va_S (fun q : Nat => s.heap.size ≤ q) s.heap H locs) (hl : lv_has ls 4 [(0, .ref b), (1, .ref (ad 0)), (2, .ref (ad 38)), (3, .int (nI i))]) : W p l e room_1 s m #[Value.ref b] below meth c H locs 600000 7302250 Q (F0 m 350 ls []) := by
  have E : CallFix p m c cL_law 4 s #[Value.ref b] wsL_law RL := ⟨hx, hb, hml, hown, hts⟩
  have hA : ∀ q : Nat, s.heap.size ≤ q → (fun q : Nat => s.heap.size ≤ q) q := fun _ h => h
  have hbA : ¬ (fun q : Nat => s.heap.size ≤ q) b := Nat.not_le.mpr hbl
  obtain ⟨r, X2, M2, h1, h2, h3⟩ := hst X M hI
  refine lv_aload_n (pc := 350) hx hb dL_law_350 rfl (lv_at hl 1 rfl) ?_
  refine lv_aload_n (pc := 351) hx hb dL_law_351 rfl (lv_at hl 0 rfl) ?_
  refine lv_iload_n (pc := 352) hx hb dL_law_352 rfl (lv_at hl 3 rfl) ?_
  refine lv_iconst (v := (1 : Int32)) (pc := 353) hx hb dL_law_353 (by decide) ?_
  refine lv_iadd (pc := 354) hx hb dL_law_354 ?_
  refine z_sld (pc := 355) (j := i + 1) hx hb hX hbl hbA hS (nI_add i 1) (by omega) hL dL_law_355 ?_
  refine lv_aload_n (pc := 356) hx hb dL_law_356 rfl (lv_at hl 0 rfl) ?_
  refine lv_iload_n (pc := 357) hx hb dL_law_357 rfl (lv_at hl 3 rfl) ?_
  refine lv_iconst (v := (2 : Int32)) (pc := 358) hx hb dL_law_358 (by decide) ?_
  refine lv_iadd (pc := 359) hx hb dL_law_359 ?_
  refine z_sld (pc := 360) (j := i + 2) hx hb hX hbl hbA hS (nI_add i 2) (by omega) hL dL_law_360 ?_
  refine zVP (pc := 361) (As := [.int (xs (i + 1)), .int (xs (i + 2))]) (rest := []) (wc := wXX cI cZ cM cS ad ra X) (w1 := wXX cI cZ cM cS ad ra X2) (wr := wMM cI cZ cM cS ad M) (w2 := (wXX cI cZ cM cS ad ra X2 ++ wMM cI cZ cM cS ad M)) E (zcon_x_search l D cI cZ cM cS ad ra (xs (i + 1)) (xs (i + 2)) X X2 r h1) 2 gL_law_X8_search rfl rfl rfl (by decide +kernel) ⟨Nat.le_of_ble_eq_true rfl, Nat.le_of_ble_eq_true rfl⟩ hK hP hD hS hA (List.Perm.refl _) (List.Perm.refl _) 0 8 rfl rfl wXX_0 rfl hl.1 rfl (Nat.le_of_ble_eq_true rfl) dL_law_361 ⟨Nat.le_of_ble_eq_true rfl, Nat.le_of_ble_eq_true rfl⟩ (fun H locs hP hD hS => ?_)
  refine W.eq (g2 := F0 m 364 ls [.int r]) rfl ?_
  refine lv_aload_n (pc := 364) hx hb dL_law_364 rfl (lv_at hl 2 rfl) ?_
  refine lv_aload_n (pc := 365) hx hb dL_law_365 rfl (lv_at hl 0 rfl) ?_
  refine lv_iload_n (pc := 366) hx hb dL_law_366 rfl (lv_at hl 3 rfl) ?_
  refine lv_iconst (v := (1 : Int32)) (pc := 367) hx hb dL_law_367 (by decide) ?_
  refine lv_iadd (pc := 368) hx hb dL_law_368 ?_
  refine z_sld (pc := 369) (j := i + 1) hx hb hX hbl hbA hS (nI_add i 1) (by omega) hL dL_law_369 ?_
  refine lv_aload_n (pc := 370) hx hb dL_law_370 rfl (lv_at hl 0 rfl) ?_
  refine lv_iload_n (pc := 371) hx hb dL_law_371 rfl (lv_at hl 3 rfl) ?_
  refine lv_iconst (v := (2 : Int32)) (pc := 372) hx hb dL_law_372 (by decide) ?_
  refine lv_iadd (pc := 373) hx hb dL_law_373 ?_
  refine z_sld (pc := 374) (j := i + 2) hx hb hX hbl hbA hS (nI_add i 2) (by omega) hL dL_law_374 ?_
  obtain ⟨fs, hfs⟩ := wMM_0 (cI := cI) (cZ := cZ) (cM := cM) (cS := cS) (ad := ad) (M := M)
  refine zVP (pc := 375) (As := [.int (xs (i + 1)), .int (xs (i + 2))]) (rest := [.int r]) (wc := wMM cI cZ cM cS ad M) (w1 := wMM cI cZ cM cS ad M2) (wr := wXX cI cZ cM cS ad ra X2) (w2 := (wXX cI cZ cM cS ad ra X2 ++ wMM cI cZ cM cS ad M2)) E (zcon_m_search l D cI cZ cM cS ad (xs (i + 1)) (xs (i + 2)) M M2 r h2) 2 gL_law_X9_search rfl rfl rfl (by decide +kernel) ⟨Nat.le_of_ble_eq_true rfl, Nat.le_of_ble_eq_true rfl⟩ hK hP hD hS hA List.perm_append_comm List.perm_append_comm 0 9 rfl rfl hfs rfl hl.1 rfl (Nat.le_of_ble_eq_true rfl) dL_law_375 ⟨Nat.le_of_ble_eq_true rfl, Nat.le_of_ble_eq_true rfl⟩ (fun H locs hP hD hS => ?_)
  refine W.eq (g2 := F0 m 378 ls [.int r, .int r]) rfl ?_
  refine lv_icmp_eq (pc := 378) (tgt := 870) hx hb dL_law_378 (by decide) (fun hc => ?_) (fun hc => absurd rfl hc)
  exact next X2 M2 H locs ls h3 hP hD hS hl
set_option maxHeartbeats 4000000 in
set_option maxRecDepth 100000 in
theorem law_c7 {p : Program} {l : Launch} {e : Env} {s : State} {m : MethodId} {below : List Frame} {meth : Method} {c : Code} {D : va_G} {cI cZ cM cS : ClassId} {b L : Nat} {xs : Nat → Int32} {ad : Nat → Nat} {ra : Nat → zSA} {Q : State → Prop} (hx : p.tables.exec = Jvm.exec) (hb : c.code = cL_law) (hml : c.maxLocals = 4) (hown : s.vm.findClass RL = some m.cls) (hts : ∀ w ∈ wsL_law, w.before #[Value.ref b] s = true) (hX : va_X b L xs s s.heap) (hbl : b < s.heap.size) (hL : L ≤ 2048) (hK : va_K D vwCl (zTy cI cZ cM cS) s) {Inv : zXV → zMV → Prop} {i : Nat} (hi : i + 4 ≤ L) (next : ∀ (X : zXV) (M : zMV) (H : Heap) (locs : List Loc) (ls : Array Slot), Inv X M → va_P D vwCl (wXX cI cZ cM cS ad ra X ++ wMM cI cZ cM cS ad M) H → va_D (fun q : Nat => s.heap.size ≤ q) (wXX cI cZ cM cS ad ra X ++ wMM cI cZ cM cS ad M) → va_S (fun q : Nat => s.heap.size ≤ q) s.heap H locs → lv_has ls 4 [(0, .ref b), (1, .ref (ad 0)), (2, .ref (ad 38)), (3, .int (nI i))] → W p l e room_1 s m #[Value.ref b] below meth c H locs 600000 7302250 Q (F0 m 870 ls [])) {X : zXV} {M : zMV} {H : Heap} {locs : List Loc} {ls : Array Slot} (hI : Inv X M) (hst : zStep Inv (x_items (xs (i + 1))) (m_items (xs (i + 1)))) (hP : va_P D vwCl (wXX cI cZ cM cS ad ra X ++ wMM cI cZ cM cS ad M) H) (hD : va_D (fun q : Nat => s.heap.size ≤ q) (wXX cI cZ cM cS ad ra X ++ wMM cI cZ cM cS ad M)) (hS : va_S (fun q : Nat => s.heap.size ≤ q) s.heap H locs) (hl : lv_has ls 4 [(0, .ref b), (1, .ref (ad 0)), (2, .ref (ad 38)), (3, .int (nI i))]) : W p l e room_1 s m #[Value.ref b] below meth c H locs 600000 7302250 Q (F0 m 383 ls []) := by
  have E : CallFix p m c cL_law 4 s #[Value.ref b] wsL_law RL := ⟨hx, hb, hml, hown, hts⟩
  have hA : ∀ q : Nat, s.heap.size ≤ q → (fun q : Nat => s.heap.size ≤ q) q := fun _ h => h
  have hbA : ¬ (fun q : Nat => s.heap.size ≤ q) b := Nat.not_le.mpr hbl
  obtain ⟨r, X2, M2, h1, h2, h3⟩ := hst X M hI
  refine lv_aload_n (pc := 383) hx hb dL_law_383 rfl (lv_at hl 1 rfl) ?_
  refine lv_aload_n (pc := 384) hx hb dL_law_384 rfl (lv_at hl 0 rfl) ?_
  refine lv_iload_n (pc := 385) hx hb dL_law_385 rfl (lv_at hl 3 rfl) ?_
  refine lv_iconst (v := (1 : Int32)) (pc := 386) hx hb dL_law_386 (by decide) ?_
  refine lv_iadd (pc := 387) hx hb dL_law_387 ?_
  refine z_sld (pc := 388) (j := i + 1) hx hb hX hbl hbA hS (nI_add i 1) (by omega) hL dL_law_388 ?_
  refine zVP (pc := 389) (As := [.int (xs (i + 1))]) (rest := []) (wc := wXX cI cZ cM cS ad ra X) (w1 := wXX cI cZ cM cS ad ra X2) (wr := wMM cI cZ cM cS ad M) (w2 := (wXX cI cZ cM cS ad ra X2 ++ wMM cI cZ cM cS ad M)) E (zcon_x_items l D cI cZ cM cS ad ra (xs (i + 1)) X X2 r h1) 1 gL_law_X8_items rfl rfl rfl (by decide +kernel) ⟨Nat.le_of_ble_eq_true rfl, Nat.le_of_ble_eq_true rfl⟩ hK hP hD hS hA (List.Perm.refl _) (List.Perm.refl _) 0 8 rfl rfl wXX_0 rfl hl.1 rfl (Nat.le_of_ble_eq_true rfl) dL_law_389 ⟨Nat.le_of_ble_eq_true rfl, Nat.le_of_ble_eq_true rfl⟩ (fun H locs hP hD hS => ?_)
  refine W.eq (g2 := F0 m 392 ls [.int r]) rfl ?_
  refine lv_aload_n (pc := 392) hx hb dL_law_392 rfl (lv_at hl 2 rfl) ?_
  refine lv_aload_n (pc := 393) hx hb dL_law_393 rfl (lv_at hl 0 rfl) ?_
  refine lv_iload_n (pc := 394) hx hb dL_law_394 rfl (lv_at hl 3 rfl) ?_
  refine lv_iconst (v := (1 : Int32)) (pc := 395) hx hb dL_law_395 (by decide) ?_
  refine lv_iadd (pc := 396) hx hb dL_law_396 ?_
  refine z_sld (pc := 397) (j := i + 1) hx hb hX hbl hbA hS (nI_add i 1) (by omega) hL dL_law_397 ?_
  obtain ⟨fs, hfs⟩ := wMM_0 (cI := cI) (cZ := cZ) (cM := cM) (cS := cS) (ad := ad) (M := M)
  refine zVP (pc := 398) (As := [.int (xs (i + 1))]) (rest := [.int r]) (wc := wMM cI cZ cM cS ad M) (w1 := wMM cI cZ cM cS ad M2) (wr := wXX cI cZ cM cS ad ra X2) (w2 := (wXX cI cZ cM cS ad ra X2 ++ wMM cI cZ cM cS ad M2)) E (zcon_m_items l D cI cZ cM cS ad (xs (i + 1)) M M2 r h2) 1 gL_law_X9_items rfl rfl rfl (by decide +kernel) ⟨Nat.le_of_ble_eq_true rfl, Nat.le_of_ble_eq_true rfl⟩ hK hP hD hS hA List.perm_append_comm List.perm_append_comm 0 9 rfl rfl hfs rfl hl.1 rfl (Nat.le_of_ble_eq_true rfl) dL_law_398 ⟨Nat.le_of_ble_eq_true rfl, Nat.le_of_ble_eq_true rfl⟩ (fun H locs hP hD hS => ?_)
  refine W.eq (g2 := F0 m 401 ls [.int r, .int r]) rfl ?_
  refine lv_icmp_eq (pc := 401) (tgt := 870) hx hb dL_law_401 (by decide) (fun hc => ?_) (fun hc => absurd rfl hc)
  exact next X2 M2 H locs ls h3 hP hD hS hl
set_option maxHeartbeats 4000000 in
set_option maxRecDepth 100000 in
theorem law_c8 {p : Program} {l : Launch} {e : Env} {s : State} {m : MethodId} {below : List Frame} {meth : Method} {c : Code} {D : va_G} {cI cZ cM cS : ClassId} {b L : Nat} {xs : Nat → Int32} {ad : Nat → Nat} {ra : Nat → zSA} {Q : State → Prop} (hx : p.tables.exec = Jvm.exec) (hb : c.code = cL_law) (hml : c.maxLocals = 4) (hown : s.vm.findClass RL = some m.cls) (hts : ∀ w ∈ wsL_law, w.before #[Value.ref b] s = true) (hX : va_X b L xs s s.heap) (hbl : b < s.heap.size) (hL : L ≤ 2048) (hK : va_K D vwCl (zTy cI cZ cM cS) s) {Inv : zXV → zMV → Prop} {i : Nat} (hi : i + 4 ≤ L) (next : ∀ (X : zXV) (M : zMV) (H : Heap) (locs : List Loc) (ls : Array Slot), Inv X M → va_P D vwCl (wXX cI cZ cM cS ad ra X ++ wMM cI cZ cM cS ad M) H → va_D (fun q : Nat => s.heap.size ≤ q) (wXX cI cZ cM cS ad ra X ++ wMM cI cZ cM cS ad M) → va_S (fun q : Nat => s.heap.size ≤ q) s.heap H locs → lv_has ls 4 [(0, .ref b), (1, .ref (ad 0)), (2, .ref (ad 38)), (3, .int (nI i))] → W p l e room_1 s m #[Value.ref b] below meth c H locs 600000 7302250 Q (F0 m 870 ls [])) {X : zXV} {M : zMV} {H : Heap} {locs : List Loc} {ls : Array Slot} (hI : Inv X M) (hst : zStep Inv (x_edge (xs (i + 1)) (xs (i + 2)) (xs (i + 3))) (m_edge (xs (i + 1)) (xs (i + 2)) (xs (i + 3)))) (hP : va_P D vwCl (wXX cI cZ cM cS ad ra X ++ wMM cI cZ cM cS ad M) H) (hD : va_D (fun q : Nat => s.heap.size ≤ q) (wXX cI cZ cM cS ad ra X ++ wMM cI cZ cM cS ad M)) (hS : va_S (fun q : Nat => s.heap.size ≤ q) s.heap H locs) (hl : lv_has ls 4 [(0, .ref b), (1, .ref (ad 0)), (2, .ref (ad 38)), (3, .int (nI i))]) : W p l e room_1 s m #[Value.ref b] below meth c H locs 600000 7302250 Q (F0 m 406 ls []) := by
  have E : CallFix p m c cL_law 4 s #[Value.ref b] wsL_law RL := ⟨hx, hb, hml, hown, hts⟩
  have hA : ∀ q : Nat, s.heap.size ≤ q → (fun q : Nat => s.heap.size ≤ q) q := fun _ h => h
  have hbA : ¬ (fun q : Nat => s.heap.size ≤ q) b := Nat.not_le.mpr hbl
  obtain ⟨r, X2, M2, h1, h2, h3⟩ := hst X M hI
  refine lv_aload_n (pc := 406) hx hb dL_law_406 rfl (lv_at hl 1 rfl) ?_
  refine lv_aload_n (pc := 407) hx hb dL_law_407 rfl (lv_at hl 0 rfl) ?_
  refine lv_iload_n (pc := 408) hx hb dL_law_408 rfl (lv_at hl 3 rfl) ?_
  refine lv_iconst (v := (1 : Int32)) (pc := 409) hx hb dL_law_409 (by decide) ?_
  refine lv_iadd (pc := 410) hx hb dL_law_410 ?_
  refine z_sld (pc := 411) (j := i + 1) hx hb hX hbl hbA hS (nI_add i 1) (by omega) hL dL_law_411 ?_
  refine lv_aload_n (pc := 412) hx hb dL_law_412 rfl (lv_at hl 0 rfl) ?_
  refine lv_iload_n (pc := 413) hx hb dL_law_413 rfl (lv_at hl 3 rfl) ?_
  refine lv_iconst (v := (2 : Int32)) (pc := 414) hx hb dL_law_414 (by decide) ?_
  refine lv_iadd (pc := 415) hx hb dL_law_415 ?_
  refine z_sld (pc := 416) (j := i + 2) hx hb hX hbl hbA hS (nI_add i 2) (by omega) hL dL_law_416 ?_
  refine lv_aload_n (pc := 417) hx hb dL_law_417 rfl (lv_at hl 0 rfl) ?_
  refine lv_iload_n (pc := 418) hx hb dL_law_418 rfl (lv_at hl 3 rfl) ?_
  refine lv_iconst (v := (3 : Int32)) (pc := 419) hx hb dL_law_419 (by decide) ?_
  refine lv_iadd (pc := 420) hx hb dL_law_420 ?_
  refine z_sld (pc := 421) (j := i + 3) hx hb hX hbl hbA hS (nI_add i 3) (by omega) hL dL_law_421 ?_
  refine zVP (pc := 422) (As := [.int (xs (i + 1)), .int (xs (i + 2)), .int (xs (i + 3))]) (rest := []) (wc := wXX cI cZ cM cS ad ra X) (w1 := wXX cI cZ cM cS ad ra X2) (wr := wMM cI cZ cM cS ad M) (w2 := (wXX cI cZ cM cS ad ra X2 ++ wMM cI cZ cM cS ad M)) E (zcon_x_edge l D cI cZ cM cS ad ra (xs (i + 1)) (xs (i + 2)) (xs (i + 3)) X X2 r h1) 3 gL_law_X8_edge rfl rfl rfl (by decide +kernel) ⟨Nat.le_of_ble_eq_true rfl, Nat.le_of_ble_eq_true rfl⟩ hK hP hD hS hA (List.Perm.refl _) (List.Perm.refl _) 0 8 rfl rfl wXX_0 rfl hl.1 rfl (Nat.le_of_ble_eq_true rfl) dL_law_422 ⟨Nat.le_of_ble_eq_true rfl, Nat.le_of_ble_eq_true rfl⟩ (fun H locs hP hD hS => ?_)
  refine W.eq (g2 := F0 m 425 ls [.int r]) rfl ?_
  refine lv_aload_n (pc := 425) hx hb dL_law_425 rfl (lv_at hl 2 rfl) ?_
  refine lv_aload_n (pc := 426) hx hb dL_law_426 rfl (lv_at hl 0 rfl) ?_
  refine lv_iload_n (pc := 427) hx hb dL_law_427 rfl (lv_at hl 3 rfl) ?_
  refine lv_iconst (v := (1 : Int32)) (pc := 428) hx hb dL_law_428 (by decide) ?_
  refine lv_iadd (pc := 429) hx hb dL_law_429 ?_
  refine z_sld (pc := 430) (j := i + 1) hx hb hX hbl hbA hS (nI_add i 1) (by omega) hL dL_law_430 ?_
  refine lv_aload_n (pc := 431) hx hb dL_law_431 rfl (lv_at hl 0 rfl) ?_
  refine lv_iload_n (pc := 432) hx hb dL_law_432 rfl (lv_at hl 3 rfl) ?_
  refine lv_iconst (v := (2 : Int32)) (pc := 433) hx hb dL_law_433 (by decide) ?_
  refine lv_iadd (pc := 434) hx hb dL_law_434 ?_
  refine z_sld (pc := 435) (j := i + 2) hx hb hX hbl hbA hS (nI_add i 2) (by omega) hL dL_law_435 ?_
  refine lv_aload_n (pc := 436) hx hb dL_law_436 rfl (lv_at hl 0 rfl) ?_
  refine lv_iload_n (pc := 437) hx hb dL_law_437 rfl (lv_at hl 3 rfl) ?_
  refine lv_iconst (v := (3 : Int32)) (pc := 438) hx hb dL_law_438 (by decide) ?_
  refine lv_iadd (pc := 439) hx hb dL_law_439 ?_
  refine z_sld (pc := 440) (j := i + 3) hx hb hX hbl hbA hS (nI_add i 3) (by omega) hL dL_law_440 ?_
  obtain ⟨fs, hfs⟩ := wMM_0 (cI := cI) (cZ := cZ) (cM := cM) (cS := cS) (ad := ad) (M := M)
  refine zVP (pc := 441) (As := [.int (xs (i + 1)), .int (xs (i + 2)), .int (xs (i + 3))]) (rest := [.int r]) (wc := wMM cI cZ cM cS ad M) (w1 := wMM cI cZ cM cS ad M2) (wr := wXX cI cZ cM cS ad ra X2) (w2 := (wXX cI cZ cM cS ad ra X2 ++ wMM cI cZ cM cS ad M2)) E (zcon_m_edge l D cI cZ cM cS ad (xs (i + 1)) (xs (i + 2)) (xs (i + 3)) M M2 r h2) 3 gL_law_X9_edge rfl rfl rfl (by decide +kernel) ⟨Nat.le_of_ble_eq_true rfl, Nat.le_of_ble_eq_true rfl⟩ hK hP hD hS hA List.perm_append_comm List.perm_append_comm 0 9 rfl rfl hfs rfl hl.1 rfl (Nat.le_of_ble_eq_true rfl) dL_law_441 ⟨Nat.le_of_ble_eq_true rfl, Nat.le_of_ble_eq_true rfl⟩ (fun H locs hP hD hS => ?_)
  refine W.eq (g2 := F0 m 444 ls [.int r, .int r]) rfl ?_
  refine lv_icmp_eq (pc := 444) (tgt := 870) hx hb dL_law_444 (by decide) (fun hc => ?_) (fun hc => absurd rfl hc)
  exact next X2 M2 H locs ls h3 hP hD hS hl
set_option maxHeartbeats 4000000 in
set_option maxRecDepth 100000 in
theorem law_c9 {p : Program} {l : Launch} {e : Env} {s : State} {m : MethodId} {below : List Frame} {meth : Method} {c : Code} {D : va_G} {cI cZ cM cS : ClassId} {b L : Nat} {xs : Nat → Int32} {ad : Nat → Nat} {ra : Nat → zSA} {Q : State → Prop} (hx : p.tables.exec = Jvm.exec) (hb : c.code = cL_law) (hml : c.maxLocals = 4) (hown : s.vm.findClass RL = some m.cls) (hts : ∀ w ∈ wsL_law, w.before #[Value.ref b] s = true) (hX : va_X b L xs s s.heap) (hbl : b < s.heap.size) (hL : L ≤ 2048) (hK : va_K D vwCl (zTy cI cZ cM cS) s) {Inv : zXV → zMV → Prop} {i : Nat} (hi : i + 4 ≤ L) (next : ∀ (X : zXV) (M : zMV) (H : Heap) (locs : List Loc) (ls : Array Slot), Inv X M → va_P D vwCl (wXX cI cZ cM cS ad ra X ++ wMM cI cZ cM cS ad M) H → va_D (fun q : Nat => s.heap.size ≤ q) (wXX cI cZ cM cS ad ra X ++ wMM cI cZ cM cS ad M) → va_S (fun q : Nat => s.heap.size ≤ q) s.heap H locs → lv_has ls 4 [(0, .ref b), (1, .ref (ad 0)), (2, .ref (ad 38)), (3, .int (nI i))] → W p l e room_1 s m #[Value.ref b] below meth c H locs 600000 7302250 Q (F0 m 870 ls [])) {X : zXV} {M : zMV} {H : Heap} {locs : List Loc} {ls : Array Slot} (hI : Inv X M) (hst : zStep Inv (x_columns (xs (i + 1)) (xs (i + 2))) (m_columns (xs (i + 1)) (xs (i + 2)))) (hP : va_P D vwCl (wXX cI cZ cM cS ad ra X ++ wMM cI cZ cM cS ad M) H) (hD : va_D (fun q : Nat => s.heap.size ≤ q) (wXX cI cZ cM cS ad ra X ++ wMM cI cZ cM cS ad M)) (hS : va_S (fun q : Nat => s.heap.size ≤ q) s.heap H locs) (hl : lv_has ls 4 [(0, .ref b), (1, .ref (ad 0)), (2, .ref (ad 38)), (3, .int (nI i))]) : W p l e room_1 s m #[Value.ref b] below meth c H locs 600000 7302250 Q (F0 m 449 ls []) := by
  have E : CallFix p m c cL_law 4 s #[Value.ref b] wsL_law RL := ⟨hx, hb, hml, hown, hts⟩
  have hA : ∀ q : Nat, s.heap.size ≤ q → (fun q : Nat => s.heap.size ≤ q) q := fun _ h => h
  have hbA : ¬ (fun q : Nat => s.heap.size ≤ q) b := Nat.not_le.mpr hbl
  obtain ⟨r, X2, M2, h1, h2, h3⟩ := hst X M hI
  refine lv_aload_n (pc := 449) hx hb dL_law_449 rfl (lv_at hl 1 rfl) ?_
  refine lv_aload_n (pc := 450) hx hb dL_law_450 rfl (lv_at hl 0 rfl) ?_
  refine lv_iload_n (pc := 451) hx hb dL_law_451 rfl (lv_at hl 3 rfl) ?_
  refine lv_iconst (v := (1 : Int32)) (pc := 452) hx hb dL_law_452 (by decide) ?_
  refine lv_iadd (pc := 453) hx hb dL_law_453 ?_
  refine z_sld (pc := 454) (j := i + 1) hx hb hX hbl hbA hS (nI_add i 1) (by omega) hL dL_law_454 ?_
  refine lv_aload_n (pc := 455) hx hb dL_law_455 rfl (lv_at hl 0 rfl) ?_
  refine lv_iload_n (pc := 456) hx hb dL_law_456 rfl (lv_at hl 3 rfl) ?_
  refine lv_iconst (v := (2 : Int32)) (pc := 457) hx hb dL_law_457 (by decide) ?_
  refine lv_iadd (pc := 458) hx hb dL_law_458 ?_
  refine z_sld (pc := 459) (j := i + 2) hx hb hX hbl hbA hS (nI_add i 2) (by omega) hL dL_law_459 ?_
  refine zVP (pc := 460) (As := [.int (xs (i + 1)), .int (xs (i + 2))]) (rest := []) (wc := wXX cI cZ cM cS ad ra X) (w1 := wXX cI cZ cM cS ad ra X2) (wr := wMM cI cZ cM cS ad M) (w2 := (wXX cI cZ cM cS ad ra X2 ++ wMM cI cZ cM cS ad M)) E (zcon_x_columns l D cI cZ cM cS ad ra (xs (i + 1)) (xs (i + 2)) X X2 r h1) 2 gL_law_X8_columns rfl rfl rfl (by decide +kernel) ⟨Nat.le_of_ble_eq_true rfl, Nat.le_of_ble_eq_true rfl⟩ hK hP hD hS hA (List.Perm.refl _) (List.Perm.refl _) 0 8 rfl rfl wXX_0 rfl hl.1 rfl (Nat.le_of_ble_eq_true rfl) dL_law_460 ⟨Nat.le_of_ble_eq_true rfl, Nat.le_of_ble_eq_true rfl⟩ (fun H locs hP hD hS => ?_)
  refine W.eq (g2 := F0 m 463 ls [.int r]) rfl ?_
  refine lv_aload_n (pc := 463) hx hb dL_law_463 rfl (lv_at hl 2 rfl) ?_
  refine lv_aload_n (pc := 464) hx hb dL_law_464 rfl (lv_at hl 0 rfl) ?_
  refine lv_iload_n (pc := 465) hx hb dL_law_465 rfl (lv_at hl 3 rfl) ?_
  refine lv_iconst (v := (1 : Int32)) (pc := 466) hx hb dL_law_466 (by decide) ?_
  refine lv_iadd (pc := 467) hx hb dL_law_467 ?_
  refine z_sld (pc := 468) (j := i + 1) hx hb hX hbl hbA hS (nI_add i 1) (by omega) hL dL_law_468 ?_
  refine lv_aload_n (pc := 469) hx hb dL_law_469 rfl (lv_at hl 0 rfl) ?_
  refine lv_iload_n (pc := 470) hx hb dL_law_470 rfl (lv_at hl 3 rfl) ?_
  refine lv_iconst (v := (2 : Int32)) (pc := 471) hx hb dL_law_471 (by decide) ?_
  refine lv_iadd (pc := 472) hx hb dL_law_472 ?_
  refine z_sld (pc := 473) (j := i + 2) hx hb hX hbl hbA hS (nI_add i 2) (by omega) hL dL_law_473 ?_
  obtain ⟨fs, hfs⟩ := wMM_0 (cI := cI) (cZ := cZ) (cM := cM) (cS := cS) (ad := ad) (M := M)
  refine zVP (pc := 474) (As := [.int (xs (i + 1)), .int (xs (i + 2))]) (rest := [.int r]) (wc := wMM cI cZ cM cS ad M) (w1 := wMM cI cZ cM cS ad M2) (wr := wXX cI cZ cM cS ad ra X2) (w2 := (wXX cI cZ cM cS ad ra X2 ++ wMM cI cZ cM cS ad M2)) E (zcon_m_columns l D cI cZ cM cS ad (xs (i + 1)) (xs (i + 2)) M M2 r h2) 2 gL_law_X9_columns rfl rfl rfl (by decide +kernel) ⟨Nat.le_of_ble_eq_true rfl, Nat.le_of_ble_eq_true rfl⟩ hK hP hD hS hA List.perm_append_comm List.perm_append_comm 0 9 rfl rfl hfs rfl hl.1 rfl (Nat.le_of_ble_eq_true rfl) dL_law_474 ⟨Nat.le_of_ble_eq_true rfl, Nat.le_of_ble_eq_true rfl⟩ (fun H locs hP hD hS => ?_)
  refine W.eq (g2 := F0 m 477 ls [.int r, .int r]) rfl ?_
  refine lv_icmp_eq (pc := 477) (tgt := 870) hx hb dL_law_477 (by decide) (fun hc => ?_) (fun hc => absurd rfl hc)
  exact next X2 M2 H locs ls h3 hP hD hS hl
set_option maxHeartbeats 4000000 in
set_option maxRecDepth 100000 in
theorem law_c10 {p : Program} {l : Launch} {e : Env} {s : State} {m : MethodId} {below : List Frame} {meth : Method} {c : Code} {D : va_G} {cI cZ cM cS : ClassId} {b L : Nat} {xs : Nat → Int32} {ad : Nat → Nat} {ra : Nat → zSA} {Q : State → Prop} (hx : p.tables.exec = Jvm.exec) (hb : c.code = cL_law) (hml : c.maxLocals = 4) (hown : s.vm.findClass RL = some m.cls) (hts : ∀ w ∈ wsL_law, w.before #[Value.ref b] s = true) (hX : va_X b L xs s s.heap) (hbl : b < s.heap.size) (hL : L ≤ 2048) (hK : va_K D vwCl (zTy cI cZ cM cS) s) {Inv : zXV → zMV → Prop} {i : Nat} (hi : i + 4 ≤ L) (next : ∀ (X : zXV) (M : zMV) (H : Heap) (locs : List Loc) (ls : Array Slot), Inv X M → va_P D vwCl (wXX cI cZ cM cS ad ra X ++ wMM cI cZ cM cS ad M) H → va_D (fun q : Nat => s.heap.size ≤ q) (wXX cI cZ cM cS ad ra X ++ wMM cI cZ cM cS ad M) → va_S (fun q : Nat => s.heap.size ≤ q) s.heap H locs → lv_has ls 4 [(0, .ref b), (1, .ref (ad 0)), (2, .ref (ad 38)), (3, .int (nI i))] → W p l e room_1 s m #[Value.ref b] below meth c H locs 600000 7302250 Q (F0 m 870 ls [])) {X : zXV} {M : zMV} {H : Heap} {locs : List Loc} {ls : Array Slot} (hI : Inv X M) (hst : zStep Inv (x_letters (xs (i + 1))) (m_letters (xs (i + 1)))) (hP : va_P D vwCl (wXX cI cZ cM cS ad ra X ++ wMM cI cZ cM cS ad M) H) (hD : va_D (fun q : Nat => s.heap.size ≤ q) (wXX cI cZ cM cS ad ra X ++ wMM cI cZ cM cS ad M)) (hS : va_S (fun q : Nat => s.heap.size ≤ q) s.heap H locs) (hl : lv_has ls 4 [(0, .ref b), (1, .ref (ad 0)), (2, .ref (ad 38)), (3, .int (nI i))]) : W p l e room_1 s m #[Value.ref b] below meth c H locs 600000 7302250 Q (F0 m 482 ls []) := by
  have E : CallFix p m c cL_law 4 s #[Value.ref b] wsL_law RL := ⟨hx, hb, hml, hown, hts⟩
  have hA : ∀ q : Nat, s.heap.size ≤ q → (fun q : Nat => s.heap.size ≤ q) q := fun _ h => h
  have hbA : ¬ (fun q : Nat => s.heap.size ≤ q) b := Nat.not_le.mpr hbl
  obtain ⟨r, X2, M2, h1, h2, h3⟩ := hst X M hI
  refine lv_aload_n (pc := 482) hx hb dL_law_482 rfl (lv_at hl 1 rfl) ?_
  refine lv_aload_n (pc := 483) hx hb dL_law_483 rfl (lv_at hl 0 rfl) ?_
  refine lv_iload_n (pc := 484) hx hb dL_law_484 rfl (lv_at hl 3 rfl) ?_
  refine lv_iconst (v := (1 : Int32)) (pc := 485) hx hb dL_law_485 (by decide) ?_
  refine lv_iadd (pc := 486) hx hb dL_law_486 ?_
  refine z_sld (pc := 487) (j := i + 1) hx hb hX hbl hbA hS (nI_add i 1) (by omega) hL dL_law_487 ?_
  refine zVP (pc := 488) (As := [.int (xs (i + 1))]) (rest := []) (wc := wXX cI cZ cM cS ad ra X) (w1 := wXX cI cZ cM cS ad ra X2) (wr := wMM cI cZ cM cS ad M) (w2 := (wXX cI cZ cM cS ad ra X2 ++ wMM cI cZ cM cS ad M)) E (zcon_x_letters l D cI cZ cM cS ad ra (xs (i + 1)) X X2 r h1) 1 gL_law_X8_letters rfl rfl rfl (by decide +kernel) ⟨Nat.le_of_ble_eq_true rfl, Nat.le_of_ble_eq_true rfl⟩ hK hP hD hS hA (List.Perm.refl _) (List.Perm.refl _) 0 8 rfl rfl wXX_0 rfl hl.1 rfl (Nat.le_of_ble_eq_true rfl) dL_law_488 ⟨Nat.le_of_ble_eq_true rfl, Nat.le_of_ble_eq_true rfl⟩ (fun H locs hP hD hS => ?_)
  refine W.eq (g2 := F0 m 491 ls [.int r]) rfl ?_
  refine lv_aload_n (pc := 491) hx hb dL_law_491 rfl (lv_at hl 2 rfl) ?_
  refine lv_aload_n (pc := 492) hx hb dL_law_492 rfl (lv_at hl 0 rfl) ?_
  refine lv_iload_n (pc := 493) hx hb dL_law_493 rfl (lv_at hl 3 rfl) ?_
  refine lv_iconst (v := (1 : Int32)) (pc := 494) hx hb dL_law_494 (by decide) ?_
  refine lv_iadd (pc := 495) hx hb dL_law_495 ?_
  refine z_sld (pc := 496) (j := i + 1) hx hb hX hbl hbA hS (nI_add i 1) (by omega) hL dL_law_496 ?_
  obtain ⟨fs, hfs⟩ := wMM_0 (cI := cI) (cZ := cZ) (cM := cM) (cS := cS) (ad := ad) (M := M)
  refine zVP (pc := 497) (As := [.int (xs (i + 1))]) (rest := [.int r]) (wc := wMM cI cZ cM cS ad M) (w1 := wMM cI cZ cM cS ad M2) (wr := wXX cI cZ cM cS ad ra X2) (w2 := (wXX cI cZ cM cS ad ra X2 ++ wMM cI cZ cM cS ad M2)) E (zcon_m_letters l D cI cZ cM cS ad (xs (i + 1)) M M2 r h2) 1 gL_law_X9_letters rfl rfl rfl (by decide +kernel) ⟨Nat.le_of_ble_eq_true rfl, Nat.le_of_ble_eq_true rfl⟩ hK hP hD hS hA List.perm_append_comm List.perm_append_comm 0 9 rfl rfl hfs rfl hl.1 rfl (Nat.le_of_ble_eq_true rfl) dL_law_497 ⟨Nat.le_of_ble_eq_true rfl, Nat.le_of_ble_eq_true rfl⟩ (fun H locs hP hD hS => ?_)
  refine W.eq (g2 := F0 m 500 ls [.int r, .int r]) rfl ?_
  refine lv_icmp_eq (pc := 500) (tgt := 870) hx hb dL_law_500 (by decide) (fun hc => ?_) (fun hc => absurd rfl hc)
  exact next X2 M2 H locs ls h3 hP hD hS hl
set_option maxHeartbeats 4000000 in
set_option maxRecDepth 100000 in
theorem law_c11 {p : Program} {l : Launch} {e : Env} {s : State} {m : MethodId} {below : List Frame} {meth : Method} {c : Code} {D : va_G} {cI cZ cM cS : ClassId} {b L : Nat} {xs : Nat → Int32} {ad : Nat → Nat} {ra : Nat → zSA} {Q : State → Prop} (hx : p.tables.exec = Jvm.exec) (hb : c.code = cL_law) (hml : c.maxLocals = 4) (hown : s.vm.findClass RL = some m.cls) (hts : ∀ w ∈ wsL_law, w.before #[Value.ref b] s = true) (hX : va_X b L xs s s.heap) (hbl : b < s.heap.size) (hL : L ≤ 2048) (hK : va_K D vwCl (zTy cI cZ cM cS) s) {Inv : zXV → zMV → Prop} {i : Nat} (hi : i + 4 ≤ L) (next : ∀ (X : zXV) (M : zMV) (H : Heap) (locs : List Loc) (ls : Array Slot), Inv X M → va_P D vwCl (wXX cI cZ cM cS ad ra X ++ wMM cI cZ cM cS ad M) H → va_D (fun q : Nat => s.heap.size ≤ q) (wXX cI cZ cM cS ad ra X ++ wMM cI cZ cM cS ad M) → va_S (fun q : Nat => s.heap.size ≤ q) s.heap H locs → lv_has ls 4 [(0, .ref b), (1, .ref (ad 0)), (2, .ref (ad 38)), (3, .int (nI i))] → W p l e room_1 s m #[Value.ref b] below meth c H locs 600000 7302250 Q (F0 m 870 ls [])) {X : zXV} {M : zMV} {H : Heap} {locs : List Loc} {ls : Array Slot} (hI : Inv X M) (hst : zStep Inv (x_goes (xs (i + 1)) (xs (i + 2)) (xs (i + 3))) (m_goes (xs (i + 1)) (xs (i + 2)) (xs (i + 3)))) (hP : va_P D vwCl (wXX cI cZ cM cS ad ra X ++ wMM cI cZ cM cS ad M) H) (hD : va_D (fun q : Nat => s.heap.size ≤ q) (wXX cI cZ cM cS ad ra X ++ wMM cI cZ cM cS ad M)) (hS : va_S (fun q : Nat => s.heap.size ≤ q) s.heap H locs) (hl : lv_has ls 4 [(0, .ref b), (1, .ref (ad 0)), (2, .ref (ad 38)), (3, .int (nI i))]) : W p l e room_1 s m #[Value.ref b] below meth c H locs 600000 7302250 Q (F0 m 505 ls []) := by
  have E : CallFix p m c cL_law 4 s #[Value.ref b] wsL_law RL := ⟨hx, hb, hml, hown, hts⟩
  have hA : ∀ q : Nat, s.heap.size ≤ q → (fun q : Nat => s.heap.size ≤ q) q := fun _ h => h
  have hbA : ¬ (fun q : Nat => s.heap.size ≤ q) b := Nat.not_le.mpr hbl
  obtain ⟨r, X2, M2, h1, h2, h3⟩ := hst X M hI
  refine lv_aload_n (pc := 505) hx hb dL_law_505 rfl (lv_at hl 1 rfl) ?_
  refine lv_aload_n (pc := 506) hx hb dL_law_506 rfl (lv_at hl 0 rfl) ?_
  refine lv_iload_n (pc := 507) hx hb dL_law_507 rfl (lv_at hl 3 rfl) ?_
  refine lv_iconst (v := (1 : Int32)) (pc := 508) hx hb dL_law_508 (by decide) ?_
  refine lv_iadd (pc := 509) hx hb dL_law_509 ?_
  refine z_sld (pc := 510) (j := i + 1) hx hb hX hbl hbA hS (nI_add i 1) (by omega) hL dL_law_510 ?_
  refine lv_aload_n (pc := 511) hx hb dL_law_511 rfl (lv_at hl 0 rfl) ?_
  refine lv_iload_n (pc := 512) hx hb dL_law_512 rfl (lv_at hl 3 rfl) ?_
  refine lv_iconst (v := (2 : Int32)) (pc := 513) hx hb dL_law_513 (by decide) ?_
  refine lv_iadd (pc := 514) hx hb dL_law_514 ?_
  refine z_sld (pc := 515) (j := i + 2) hx hb hX hbl hbA hS (nI_add i 2) (by omega) hL dL_law_515 ?_
  refine lv_aload_n (pc := 516) hx hb dL_law_516 rfl (lv_at hl 0 rfl) ?_
  refine lv_iload_n (pc := 517) hx hb dL_law_517 rfl (lv_at hl 3 rfl) ?_
  refine lv_iconst (v := (3 : Int32)) (pc := 518) hx hb dL_law_518 (by decide) ?_
  refine lv_iadd (pc := 519) hx hb dL_law_519 ?_
  refine z_sld (pc := 520) (j := i + 3) hx hb hX hbl hbA hS (nI_add i 3) (by omega) hL dL_law_520 ?_
  refine zVP (pc := 521) (As := [.int (xs (i + 1)), .int (xs (i + 2)), .int (xs (i + 3))]) (rest := []) (wc := wXX cI cZ cM cS ad ra X) (w1 := wXX cI cZ cM cS ad ra X2) (wr := wMM cI cZ cM cS ad M) (w2 := (wXX cI cZ cM cS ad ra X2 ++ wMM cI cZ cM cS ad M)) E (zcon_x_goes l D cI cZ cM cS ad ra (xs (i + 1)) (xs (i + 2)) (xs (i + 3)) X X2 r h1) 3 gL_law_X8_goes rfl rfl rfl (by decide +kernel) ⟨Nat.le_of_ble_eq_true rfl, Nat.le_of_ble_eq_true rfl⟩ hK hP hD hS hA (List.Perm.refl _) (List.Perm.refl _) 0 8 rfl rfl wXX_0 rfl hl.1 rfl (Nat.le_of_ble_eq_true rfl) dL_law_521 ⟨Nat.le_of_ble_eq_true rfl, Nat.le_of_ble_eq_true rfl⟩ (fun H locs hP hD hS => ?_)
  refine W.eq (g2 := F0 m 524 ls [.int r]) rfl ?_
  refine lv_aload_n (pc := 524) hx hb dL_law_524 rfl (lv_at hl 2 rfl) ?_
  refine lv_aload_n (pc := 525) hx hb dL_law_525 rfl (lv_at hl 0 rfl) ?_
  refine lv_iload_n (pc := 526) hx hb dL_law_526 rfl (lv_at hl 3 rfl) ?_
  refine lv_iconst (v := (1 : Int32)) (pc := 527) hx hb dL_law_527 (by decide) ?_
  refine lv_iadd (pc := 528) hx hb dL_law_528 ?_
  refine z_sld (pc := 529) (j := i + 1) hx hb hX hbl hbA hS (nI_add i 1) (by omega) hL dL_law_529 ?_
  refine lv_aload_n (pc := 530) hx hb dL_law_530 rfl (lv_at hl 0 rfl) ?_
  refine lv_iload_n (pc := 531) hx hb dL_law_531 rfl (lv_at hl 3 rfl) ?_
  refine lv_iconst (v := (2 : Int32)) (pc := 532) hx hb dL_law_532 (by decide) ?_
  refine lv_iadd (pc := 533) hx hb dL_law_533 ?_
  refine z_sld (pc := 534) (j := i + 2) hx hb hX hbl hbA hS (nI_add i 2) (by omega) hL dL_law_534 ?_
  refine lv_aload_n (pc := 535) hx hb dL_law_535 rfl (lv_at hl 0 rfl) ?_
  refine lv_iload_n (pc := 536) hx hb dL_law_536 rfl (lv_at hl 3 rfl) ?_
  refine lv_iconst (v := (3 : Int32)) (pc := 537) hx hb dL_law_537 (by decide) ?_
  refine lv_iadd (pc := 538) hx hb dL_law_538 ?_
  refine z_sld (pc := 539) (j := i + 3) hx hb hX hbl hbA hS (nI_add i 3) (by omega) hL dL_law_539 ?_
  obtain ⟨fs, hfs⟩ := wMM_0 (cI := cI) (cZ := cZ) (cM := cM) (cS := cS) (ad := ad) (M := M)
  refine zVP (pc := 540) (As := [.int (xs (i + 1)), .int (xs (i + 2)), .int (xs (i + 3))]) (rest := [.int r]) (wc := wMM cI cZ cM cS ad M) (w1 := wMM cI cZ cM cS ad M2) (wr := wXX cI cZ cM cS ad ra X2) (w2 := (wXX cI cZ cM cS ad ra X2 ++ wMM cI cZ cM cS ad M2)) E (zcon_m_goes l D cI cZ cM cS ad (xs (i + 1)) (xs (i + 2)) (xs (i + 3)) M M2 r h2) 3 gL_law_X9_goes rfl rfl rfl (by decide +kernel) ⟨Nat.le_of_ble_eq_true rfl, Nat.le_of_ble_eq_true rfl⟩ hK hP hD hS hA List.perm_append_comm List.perm_append_comm 0 9 rfl rfl hfs rfl hl.1 rfl (Nat.le_of_ble_eq_true rfl) dL_law_540 ⟨Nat.le_of_ble_eq_true rfl, Nat.le_of_ble_eq_true rfl⟩ (fun H locs hP hD hS => ?_)
  refine W.eq (g2 := F0 m 543 ls [.int r, .int r]) rfl ?_
  refine lv_icmp_eq (pc := 543) (tgt := 870) hx hb dL_law_543 (by decide) (fun hc => ?_) (fun hc => absurd rfl hc)
  exact next X2 M2 H locs ls h3 hP hD hS hl
set_option maxHeartbeats 4000000 in
set_option maxRecDepth 100000 in
theorem law_c12 {p : Program} {l : Launch} {e : Env} {s : State} {m : MethodId} {below : List Frame} {meth : Method} {c : Code} {D : va_G} {cI cZ cM cS : ClassId} {b L : Nat} {xs : Nat → Int32} {ad : Nat → Nat} {ra : Nat → zSA} {Q : State → Prop} (hx : p.tables.exec = Jvm.exec) (hb : c.code = cL_law) (hml : c.maxLocals = 4) (hown : s.vm.findClass RL = some m.cls) (hts : ∀ w ∈ wsL_law, w.before #[Value.ref b] s = true) (hX : va_X b L xs s s.heap) (hbl : b < s.heap.size) (hL : L ≤ 2048) (hK : va_K D vwCl (zTy cI cZ cM cS) s) {Inv : zXV → zMV → Prop} {i : Nat} (hi : i + 4 ≤ L) (next : ∀ (X : zXV) (M : zMV) (H : Heap) (locs : List Loc) (ls : Array Slot), Inv X M → va_P D vwCl (wXX cI cZ cM cS ad ra X ++ wMM cI cZ cM cS ad M) H → va_D (fun q : Nat => s.heap.size ≤ q) (wXX cI cZ cM cS ad ra X ++ wMM cI cZ cM cS ad M) → va_S (fun q : Nat => s.heap.size ≤ q) s.heap H locs → lv_has ls 4 [(0, .ref b), (1, .ref (ad 0)), (2, .ref (ad 38)), (3, .int (nI i))] → W p l e room_1 s m #[Value.ref b] below meth c H locs 600000 7302250 Q (F0 m 870 ls [])) {X : zXV} {M : zMV} {H : Heap} {locs : List Loc} {ls : Array Slot} (hI : Inv X M) (hst : zStep Inv (x_finals (xs (i + 1))) (m_finals (xs (i + 1)))) (hP : va_P D vwCl (wXX cI cZ cM cS ad ra X ++ wMM cI cZ cM cS ad M) H) (hD : va_D (fun q : Nat => s.heap.size ≤ q) (wXX cI cZ cM cS ad ra X ++ wMM cI cZ cM cS ad M)) (hS : va_S (fun q : Nat => s.heap.size ≤ q) s.heap H locs) (hl : lv_has ls 4 [(0, .ref b), (1, .ref (ad 0)), (2, .ref (ad 38)), (3, .int (nI i))]) : W p l e room_1 s m #[Value.ref b] below meth c H locs 600000 7302250 Q (F0 m 548 ls []) := by
  have E : CallFix p m c cL_law 4 s #[Value.ref b] wsL_law RL := ⟨hx, hb, hml, hown, hts⟩
  have hA : ∀ q : Nat, s.heap.size ≤ q → (fun q : Nat => s.heap.size ≤ q) q := fun _ h => h
  have hbA : ¬ (fun q : Nat => s.heap.size ≤ q) b := Nat.not_le.mpr hbl
  obtain ⟨r, X2, M2, h1, h2, h3⟩ := hst X M hI
  refine lv_aload_n (pc := 548) hx hb dL_law_548 rfl (lv_at hl 1 rfl) ?_
  refine lv_aload_n (pc := 549) hx hb dL_law_549 rfl (lv_at hl 0 rfl) ?_
  refine lv_iload_n (pc := 550) hx hb dL_law_550 rfl (lv_at hl 3 rfl) ?_
  refine lv_iconst (v := (1 : Int32)) (pc := 551) hx hb dL_law_551 (by decide) ?_
  refine lv_iadd (pc := 552) hx hb dL_law_552 ?_
  refine z_sld (pc := 553) (j := i + 1) hx hb hX hbl hbA hS (nI_add i 1) (by omega) hL dL_law_553 ?_
  refine zVP (pc := 554) (As := [.int (xs (i + 1))]) (rest := []) (wc := wXX cI cZ cM cS ad ra X) (w1 := wXX cI cZ cM cS ad ra X2) (wr := wMM cI cZ cM cS ad M) (w2 := (wXX cI cZ cM cS ad ra X2 ++ wMM cI cZ cM cS ad M)) E (zcon_x_finals l D cI cZ cM cS ad ra (xs (i + 1)) X X2 r h1) 1 gL_law_X8_finals rfl rfl rfl (by decide +kernel) ⟨Nat.le_of_ble_eq_true rfl, Nat.le_of_ble_eq_true rfl⟩ hK hP hD hS hA (List.Perm.refl _) (List.Perm.refl _) 0 8 rfl rfl wXX_0 rfl hl.1 rfl (Nat.le_of_ble_eq_true rfl) dL_law_554 ⟨Nat.le_of_ble_eq_true rfl, Nat.le_of_ble_eq_true rfl⟩ (fun H locs hP hD hS => ?_)
  refine W.eq (g2 := F0 m 557 ls [.int r]) rfl ?_
  refine lv_aload_n (pc := 557) hx hb dL_law_557 rfl (lv_at hl 2 rfl) ?_
  refine lv_aload_n (pc := 558) hx hb dL_law_558 rfl (lv_at hl 0 rfl) ?_
  refine lv_iload_n (pc := 559) hx hb dL_law_559 rfl (lv_at hl 3 rfl) ?_
  refine lv_iconst (v := (1 : Int32)) (pc := 560) hx hb dL_law_560 (by decide) ?_
  refine lv_iadd (pc := 561) hx hb dL_law_561 ?_
  refine z_sld (pc := 562) (j := i + 1) hx hb hX hbl hbA hS (nI_add i 1) (by omega) hL dL_law_562 ?_
  obtain ⟨fs, hfs⟩ := wMM_0 (cI := cI) (cZ := cZ) (cM := cM) (cS := cS) (ad := ad) (M := M)
  refine zVP (pc := 563) (As := [.int (xs (i + 1))]) (rest := [.int r]) (wc := wMM cI cZ cM cS ad M) (w1 := wMM cI cZ cM cS ad M2) (wr := wXX cI cZ cM cS ad ra X2) (w2 := (wXX cI cZ cM cS ad ra X2 ++ wMM cI cZ cM cS ad M2)) E (zcon_m_finals l D cI cZ cM cS ad (xs (i + 1)) M M2 r h2) 1 gL_law_X9_finals rfl rfl rfl (by decide +kernel) ⟨Nat.le_of_ble_eq_true rfl, Nat.le_of_ble_eq_true rfl⟩ hK hP hD hS hA List.perm_append_comm List.perm_append_comm 0 9 rfl rfl hfs rfl hl.1 rfl (Nat.le_of_ble_eq_true rfl) dL_law_563 ⟨Nat.le_of_ble_eq_true rfl, Nat.le_of_ble_eq_true rfl⟩ (fun H locs hP hD hS => ?_)
  refine W.eq (g2 := F0 m 566 ls [.int r, .int r]) rfl ?_
  refine lv_icmp_eq (pc := 566) (tgt := 870) hx hb dL_law_566 (by decide) (fun hc => ?_) (fun hc => absurd rfl hc)
  exact next X2 M2 H locs ls h3 hP hD hS hl
set_option maxHeartbeats 4000000 in
set_option maxRecDepth 100000 in
theorem law_c13 {p : Program} {l : Launch} {e : Env} {s : State} {m : MethodId} {below : List Frame} {meth : Method} {c : Code} {D : va_G} {cI cZ cM cS : ClassId} {b L : Nat} {xs : Nat → Int32} {ad : Nat → Nat} {ra : Nat → zSA} {Q : State → Prop} (hx : p.tables.exec = Jvm.exec) (hb : c.code = cL_law) (hml : c.maxLocals = 4) (hown : s.vm.findClass RL = some m.cls) (hts : ∀ w ∈ wsL_law, w.before #[Value.ref b] s = true) (hX : va_X b L xs s s.heap) (hbl : b < s.heap.size) (hL : L ≤ 2048) (hK : va_K D vwCl (zTy cI cZ cM cS) s) {Inv : zXV → zMV → Prop} {i : Nat} (hi : i + 4 ≤ L) (next : ∀ (X : zXV) (M : zMV) (H : Heap) (locs : List Loc) (ls : Array Slot), Inv X M → va_P D vwCl (wXX cI cZ cM cS ad ra X ++ wMM cI cZ cM cS ad M) H → va_D (fun q : Nat => s.heap.size ≤ q) (wXX cI cZ cM cS ad ra X ++ wMM cI cZ cM cS ad M) → va_S (fun q : Nat => s.heap.size ≤ q) s.heap H locs → lv_has ls 4 [(0, .ref b), (1, .ref (ad 0)), (2, .ref (ad 38)), (3, .int (nI i))] → W p l e room_1 s m #[Value.ref b] below meth c H locs 600000 7302250 Q (F0 m 870 ls [])) {X : zXV} {M : zMV} {H : Heap} {locs : List Loc} {ls : Array Slot} (hI : Inv X M) (hst : zStep Inv (x_begin ) (m_begin )) (hP : va_P D vwCl (wXX cI cZ cM cS ad ra X ++ wMM cI cZ cM cS ad M) H) (hD : va_D (fun q : Nat => s.heap.size ≤ q) (wXX cI cZ cM cS ad ra X ++ wMM cI cZ cM cS ad M)) (hS : va_S (fun q : Nat => s.heap.size ≤ q) s.heap H locs) (hl : lv_has ls 4 [(0, .ref b), (1, .ref (ad 0)), (2, .ref (ad 38)), (3, .int (nI i))]) : W p l e room_1 s m #[Value.ref b] below meth c H locs 600000 7302250 Q (F0 m 571 ls []) := by
  have E : CallFix p m c cL_law 4 s #[Value.ref b] wsL_law RL := ⟨hx, hb, hml, hown, hts⟩
  have hA : ∀ q : Nat, s.heap.size ≤ q → (fun q : Nat => s.heap.size ≤ q) q := fun _ h => h
  have hbA : ¬ (fun q : Nat => s.heap.size ≤ q) b := Nat.not_le.mpr hbl
  obtain ⟨r, X2, M2, h1, h2, h3⟩ := hst X M hI
  refine lv_aload_n (pc := 571) hx hb dL_law_571 rfl (lv_at hl 1 rfl) ?_
  refine zVP (pc := 572) (As := []) (rest := []) (wc := wXX cI cZ cM cS ad ra X) (w1 := wXX cI cZ cM cS ad ra X2) (wr := wMM cI cZ cM cS ad M) (w2 := (wXX cI cZ cM cS ad ra X2 ++ wMM cI cZ cM cS ad M)) E (zcon_x_begin l D cI cZ cM cS ad ra X X2 r h1) 0 gL_law_X8_begin rfl rfl rfl (by decide +kernel) ⟨Nat.le_of_ble_eq_true rfl, Nat.le_of_ble_eq_true rfl⟩ hK hP hD hS hA (List.Perm.refl _) (List.Perm.refl _) 0 8 rfl rfl wXX_0 rfl hl.1 rfl (Nat.le_of_ble_eq_true rfl) dL_law_572 ⟨Nat.le_of_ble_eq_true rfl, Nat.le_of_ble_eq_true rfl⟩ (fun H locs hP hD hS => ?_)
  refine W.eq (g2 := F0 m 575 ls [.int r]) rfl ?_
  refine lv_aload_n (pc := 575) hx hb dL_law_575 rfl (lv_at hl 2 rfl) ?_
  obtain ⟨fs, hfs⟩ := wMM_0 (cI := cI) (cZ := cZ) (cM := cM) (cS := cS) (ad := ad) (M := M)
  refine zVP (pc := 576) (As := []) (rest := [.int r]) (wc := wMM cI cZ cM cS ad M) (w1 := wMM cI cZ cM cS ad M2) (wr := wXX cI cZ cM cS ad ra X2) (w2 := (wXX cI cZ cM cS ad ra X2 ++ wMM cI cZ cM cS ad M2)) E (zcon_m_begin l D cI cZ cM cS ad M M2 r h2) 0 gL_law_X9_begin rfl rfl rfl (by decide +kernel) ⟨Nat.le_of_ble_eq_true rfl, Nat.le_of_ble_eq_true rfl⟩ hK hP hD hS hA List.perm_append_comm List.perm_append_comm 0 9 rfl rfl hfs rfl hl.1 rfl (Nat.le_of_ble_eq_true rfl) dL_law_576 ⟨Nat.le_of_ble_eq_true rfl, Nat.le_of_ble_eq_true rfl⟩ (fun H locs hP hD hS => ?_)
  refine W.eq (g2 := F0 m 579 ls [.int r, .int r]) rfl ?_
  refine lv_icmp_eq (pc := 579) (tgt := 870) hx hb dL_law_579 (by decide) (fun hc => ?_) (fun hc => absurd rfl hc)
  exact next X2 M2 H locs ls h3 hP hD hS hl
set_option maxHeartbeats 4000000 in
set_option maxRecDepth 100000 in
theorem law_c14 {p : Program} {l : Launch} {e : Env} {s : State} {m : MethodId} {below : List Frame} {meth : Method} {c : Code} {D : va_G} {cI cZ cM cS : ClassId} {b L : Nat} {xs : Nat → Int32} {ad : Nat → Nat} {ra : Nat → zSA} {Q : State → Prop} (hx : p.tables.exec = Jvm.exec) (hb : c.code = cL_law) (hml : c.maxLocals = 4) (hown : s.vm.findClass RL = some m.cls) (hts : ∀ w ∈ wsL_law, w.before #[Value.ref b] s = true) (hX : va_X b L xs s s.heap) (hbl : b < s.heap.size) (hL : L ≤ 2048) (hK : va_K D vwCl (zTy cI cZ cM cS) s) {Inv : zXV → zMV → Prop} {i : Nat} (hi : i + 4 ≤ L) (next : ∀ (X : zXV) (M : zMV) (H : Heap) (locs : List Loc) (ls : Array Slot), Inv X M → va_P D vwCl (wXX cI cZ cM cS ad ra X ++ wMM cI cZ cM cS ad M) H → va_D (fun q : Nat => s.heap.size ≤ q) (wXX cI cZ cM cS ad ra X ++ wMM cI cZ cM cS ad M) → va_S (fun q : Nat => s.heap.size ≤ q) s.heap H locs → lv_has ls 4 [(0, .ref b), (1, .ref (ad 0)), (2, .ref (ad 38)), (3, .int (nI i))] → W p l e room_1 s m #[Value.ref b] below meth c H locs 600000 7302250 Q (F0 m 870 ls [])) {X : zXV} {M : zMV} {H : Heap} {locs : List Loc} {ls : Array Slot} (hI : Inv X M) (hst : zStep Inv (x_split (xs (i + 1))) (m_split (xs (i + 1)))) (hP : va_P D vwCl (wXX cI cZ cM cS ad ra X ++ wMM cI cZ cM cS ad M) H) (hD : va_D (fun q : Nat => s.heap.size ≤ q) (wXX cI cZ cM cS ad ra X ++ wMM cI cZ cM cS ad M)) (hS : va_S (fun q : Nat => s.heap.size ≤ q) s.heap H locs) (hl : lv_has ls 4 [(0, .ref b), (1, .ref (ad 0)), (2, .ref (ad 38)), (3, .int (nI i))]) : W p l e room_1 s m #[Value.ref b] below meth c H locs 600000 7302250 Q (F0 m 584 ls []) := by
  have E : CallFix p m c cL_law 4 s #[Value.ref b] wsL_law RL := ⟨hx, hb, hml, hown, hts⟩
  have hA : ∀ q : Nat, s.heap.size ≤ q → (fun q : Nat => s.heap.size ≤ q) q := fun _ h => h
  have hbA : ¬ (fun q : Nat => s.heap.size ≤ q) b := Nat.not_le.mpr hbl
  obtain ⟨r, X2, M2, h1, h2, h3⟩ := hst X M hI
  refine lv_aload_n (pc := 584) hx hb dL_law_584 rfl (lv_at hl 1 rfl) ?_
  refine lv_aload_n (pc := 585) hx hb dL_law_585 rfl (lv_at hl 0 rfl) ?_
  refine lv_iload_n (pc := 586) hx hb dL_law_586 rfl (lv_at hl 3 rfl) ?_
  refine lv_iconst (v := (1 : Int32)) (pc := 587) hx hb dL_law_587 (by decide) ?_
  refine lv_iadd (pc := 588) hx hb dL_law_588 ?_
  refine z_sld (pc := 589) (j := i + 1) hx hb hX hbl hbA hS (nI_add i 1) (by omega) hL dL_law_589 ?_
  refine zVP (pc := 590) (As := [.int (xs (i + 1))]) (rest := []) (wc := wXX cI cZ cM cS ad ra X) (w1 := wXX cI cZ cM cS ad ra X2) (wr := wMM cI cZ cM cS ad M) (w2 := (wXX cI cZ cM cS ad ra X2 ++ wMM cI cZ cM cS ad M)) E (zcon_x_split l D cI cZ cM cS ad ra (xs (i + 1)) X X2 r h1) 1 gL_law_X8_split rfl rfl rfl (by decide +kernel) ⟨Nat.le_of_ble_eq_true rfl, Nat.le_of_ble_eq_true rfl⟩ hK hP hD hS hA (List.Perm.refl _) (List.Perm.refl _) 0 8 rfl rfl wXX_0 rfl hl.1 rfl (Nat.le_of_ble_eq_true rfl) dL_law_590 ⟨Nat.le_of_ble_eq_true rfl, Nat.le_of_ble_eq_true rfl⟩ (fun H locs hP hD hS => ?_)
  refine W.eq (g2 := F0 m 593 ls [.int r]) rfl ?_
  refine lv_aload_n (pc := 593) hx hb dL_law_593 rfl (lv_at hl 2 rfl) ?_
  refine lv_aload_n (pc := 594) hx hb dL_law_594 rfl (lv_at hl 0 rfl) ?_
  refine lv_iload_n (pc := 595) hx hb dL_law_595 rfl (lv_at hl 3 rfl) ?_
  refine lv_iconst (v := (1 : Int32)) (pc := 596) hx hb dL_law_596 (by decide) ?_
  refine lv_iadd (pc := 597) hx hb dL_law_597 ?_
  refine z_sld (pc := 598) (j := i + 1) hx hb hX hbl hbA hS (nI_add i 1) (by omega) hL dL_law_598 ?_
  obtain ⟨fs, hfs⟩ := wMM_0 (cI := cI) (cZ := cZ) (cM := cM) (cS := cS) (ad := ad) (M := M)
  refine zVP (pc := 599) (As := [.int (xs (i + 1))]) (rest := [.int r]) (wc := wMM cI cZ cM cS ad M) (w1 := wMM cI cZ cM cS ad M2) (wr := wXX cI cZ cM cS ad ra X2) (w2 := (wXX cI cZ cM cS ad ra X2 ++ wMM cI cZ cM cS ad M2)) E (zcon_m_split l D cI cZ cM cS ad (xs (i + 1)) M M2 r h2) 1 gL_law_X9_split rfl rfl rfl (by decide +kernel) ⟨Nat.le_of_ble_eq_true rfl, Nat.le_of_ble_eq_true rfl⟩ hK hP hD hS hA List.perm_append_comm List.perm_append_comm 0 9 rfl rfl hfs rfl hl.1 rfl (Nat.le_of_ble_eq_true rfl) dL_law_599 ⟨Nat.le_of_ble_eq_true rfl, Nat.le_of_ble_eq_true rfl⟩ (fun H locs hP hD hS => ?_)
  refine W.eq (g2 := F0 m 602 ls [.int r, .int r]) rfl ?_
  refine lv_icmp_eq (pc := 602) (tgt := 870) hx hb dL_law_602 (by decide) (fun hc => ?_) (fun hc => absurd rfl hc)
  exact next X2 M2 H locs ls h3 hP hD hS hl
set_option maxHeartbeats 4000000 in
set_option maxRecDepth 100000 in
theorem law_c15 {p : Program} {l : Launch} {e : Env} {s : State} {m : MethodId} {below : List Frame} {meth : Method} {c : Code} {D : va_G} {cI cZ cM cS : ClassId} {b L : Nat} {xs : Nat → Int32} {ad : Nat → Nat} {ra : Nat → zSA} {Q : State → Prop} (hx : p.tables.exec = Jvm.exec) (hb : c.code = cL_law) (hml : c.maxLocals = 4) (hown : s.vm.findClass RL = some m.cls) (hts : ∀ w ∈ wsL_law, w.before #[Value.ref b] s = true) (hX : va_X b L xs s s.heap) (hbl : b < s.heap.size) (hL : L ≤ 2048) (hK : va_K D vwCl (zTy cI cZ cM cS) s) {Inv : zXV → zMV → Prop} {i : Nat} (hi : i + 4 ≤ L) (next : ∀ (X : zXV) (M : zMV) (H : Heap) (locs : List Loc) (ls : Array Slot), Inv X M → va_P D vwCl (wXX cI cZ cM cS ad ra X ++ wMM cI cZ cM cS ad M) H → va_D (fun q : Nat => s.heap.size ≤ q) (wXX cI cZ cM cS ad ra X ++ wMM cI cZ cM cS ad M) → va_S (fun q : Nat => s.heap.size ≤ q) s.heap H locs → lv_has ls 4 [(0, .ref b), (1, .ref (ad 0)), (2, .ref (ad 38)), (3, .int (nI i))] → W p l e room_1 s m #[Value.ref b] below meth c H locs 600000 7302250 Q (F0 m 870 ls [])) {X : zXV} {M : zMV} {H : Heap} {locs : List Loc} {ls : Array Slot} (hI : Inv X M) (hst : zStep Inv (x_by (xs (i + 1)) (xs (i + 2)) (xs (i + 3))) (m_by (xs (i + 1)) (xs (i + 2)) (xs (i + 3)))) (hP : va_P D vwCl (wXX cI cZ cM cS ad ra X ++ wMM cI cZ cM cS ad M) H) (hD : va_D (fun q : Nat => s.heap.size ≤ q) (wXX cI cZ cM cS ad ra X ++ wMM cI cZ cM cS ad M)) (hS : va_S (fun q : Nat => s.heap.size ≤ q) s.heap H locs) (hl : lv_has ls 4 [(0, .ref b), (1, .ref (ad 0)), (2, .ref (ad 38)), (3, .int (nI i))]) : W p l e room_1 s m #[Value.ref b] below meth c H locs 600000 7302250 Q (F0 m 607 ls []) := by
  have E : CallFix p m c cL_law 4 s #[Value.ref b] wsL_law RL := ⟨hx, hb, hml, hown, hts⟩
  have hA : ∀ q : Nat, s.heap.size ≤ q → (fun q : Nat => s.heap.size ≤ q) q := fun _ h => h
  have hbA : ¬ (fun q : Nat => s.heap.size ≤ q) b := Nat.not_le.mpr hbl
  obtain ⟨r, X2, M2, h1, h2, h3⟩ := hst X M hI
  refine lv_aload_n (pc := 607) hx hb dL_law_607 rfl (lv_at hl 1 rfl) ?_
  refine lv_aload_n (pc := 608) hx hb dL_law_608 rfl (lv_at hl 0 rfl) ?_
  refine lv_iload_n (pc := 609) hx hb dL_law_609 rfl (lv_at hl 3 rfl) ?_
  refine lv_iconst (v := (1 : Int32)) (pc := 610) hx hb dL_law_610 (by decide) ?_
  refine lv_iadd (pc := 611) hx hb dL_law_611 ?_
  refine z_sld (pc := 612) (j := i + 1) hx hb hX hbl hbA hS (nI_add i 1) (by omega) hL dL_law_612 ?_
  refine lv_aload_n (pc := 613) hx hb dL_law_613 rfl (lv_at hl 0 rfl) ?_
  refine lv_iload_n (pc := 614) hx hb dL_law_614 rfl (lv_at hl 3 rfl) ?_
  refine lv_iconst (v := (2 : Int32)) (pc := 615) hx hb dL_law_615 (by decide) ?_
  refine lv_iadd (pc := 616) hx hb dL_law_616 ?_
  refine z_sld (pc := 617) (j := i + 2) hx hb hX hbl hbA hS (nI_add i 2) (by omega) hL dL_law_617 ?_
  refine lv_aload_n (pc := 618) hx hb dL_law_618 rfl (lv_at hl 0 rfl) ?_
  refine lv_iload_n (pc := 619) hx hb dL_law_619 rfl (lv_at hl 3 rfl) ?_
  refine lv_iconst (v := (3 : Int32)) (pc := 620) hx hb dL_law_620 (by decide) ?_
  refine lv_iadd (pc := 621) hx hb dL_law_621 ?_
  refine z_sld (pc := 622) (j := i + 3) hx hb hX hbl hbA hS (nI_add i 3) (by omega) hL dL_law_622 ?_
  refine zVP (pc := 623) (As := [.int (xs (i + 1)), .int (xs (i + 2)), .int (xs (i + 3))]) (rest := []) (wc := wXX cI cZ cM cS ad ra X) (w1 := wXX cI cZ cM cS ad ra X2) (wr := wMM cI cZ cM cS ad M) (w2 := (wXX cI cZ cM cS ad ra X2 ++ wMM cI cZ cM cS ad M)) E (zcon_x_by l D cI cZ cM cS ad ra (xs (i + 1)) (xs (i + 2)) (xs (i + 3)) X X2 r h1) 3 gL_law_X8_by rfl rfl rfl (by decide +kernel) ⟨Nat.le_of_ble_eq_true rfl, Nat.le_of_ble_eq_true rfl⟩ hK hP hD hS hA (List.Perm.refl _) (List.Perm.refl _) 0 8 rfl rfl wXX_0 rfl hl.1 rfl (Nat.le_of_ble_eq_true rfl) dL_law_623 ⟨Nat.le_of_ble_eq_true rfl, Nat.le_of_ble_eq_true rfl⟩ (fun H locs hP hD hS => ?_)
  refine W.eq (g2 := F0 m 626 ls [.int r]) rfl ?_
  refine lv_aload_n (pc := 626) hx hb dL_law_626 rfl (lv_at hl 2 rfl) ?_
  refine lv_aload_n (pc := 627) hx hb dL_law_627 rfl (lv_at hl 0 rfl) ?_
  refine lv_iload_n (pc := 628) hx hb dL_law_628 rfl (lv_at hl 3 rfl) ?_
  refine lv_iconst (v := (1 : Int32)) (pc := 629) hx hb dL_law_629 (by decide) ?_
  refine lv_iadd (pc := 630) hx hb dL_law_630 ?_
  refine z_sld (pc := 631) (j := i + 1) hx hb hX hbl hbA hS (nI_add i 1) (by omega) hL dL_law_631 ?_
  refine lv_aload_n (pc := 632) hx hb dL_law_632 rfl (lv_at hl 0 rfl) ?_
  refine lv_iload_n (pc := 633) hx hb dL_law_633 rfl (lv_at hl 3 rfl) ?_
  refine lv_iconst (v := (2 : Int32)) (pc := 634) hx hb dL_law_634 (by decide) ?_
  refine lv_iadd (pc := 635) hx hb dL_law_635 ?_
  refine z_sld (pc := 636) (j := i + 2) hx hb hX hbl hbA hS (nI_add i 2) (by omega) hL dL_law_636 ?_
  refine lv_aload_n (pc := 637) hx hb dL_law_637 rfl (lv_at hl 0 rfl) ?_
  refine lv_iload_n (pc := 638) hx hb dL_law_638 rfl (lv_at hl 3 rfl) ?_
  refine lv_iconst (v := (3 : Int32)) (pc := 639) hx hb dL_law_639 (by decide) ?_
  refine lv_iadd (pc := 640) hx hb dL_law_640 ?_
  refine z_sld (pc := 641) (j := i + 3) hx hb hX hbl hbA hS (nI_add i 3) (by omega) hL dL_law_641 ?_
  obtain ⟨fs, hfs⟩ := wMM_0 (cI := cI) (cZ := cZ) (cM := cM) (cS := cS) (ad := ad) (M := M)
  refine zVP (pc := 642) (As := [.int (xs (i + 1)), .int (xs (i + 2)), .int (xs (i + 3))]) (rest := [.int r]) (wc := wMM cI cZ cM cS ad M) (w1 := wMM cI cZ cM cS ad M2) (wr := wXX cI cZ cM cS ad ra X2) (w2 := (wXX cI cZ cM cS ad ra X2 ++ wMM cI cZ cM cS ad M2)) E (zcon_m_by l D cI cZ cM cS ad (xs (i + 1)) (xs (i + 2)) (xs (i + 3)) M M2 r h2) 3 gL_law_X9_by rfl rfl rfl (by decide +kernel) ⟨Nat.le_of_ble_eq_true rfl, Nat.le_of_ble_eq_true rfl⟩ hK hP hD hS hA List.perm_append_comm List.perm_append_comm 0 9 rfl rfl hfs rfl hl.1 rfl (Nat.le_of_ble_eq_true rfl) dL_law_642 ⟨Nat.le_of_ble_eq_true rfl, Nat.le_of_ble_eq_true rfl⟩ (fun H locs hP hD hS => ?_)
  refine W.eq (g2 := F0 m 645 ls [.int r, .int r]) rfl ?_
  refine lv_icmp_eq (pc := 645) (tgt := 870) hx hb dL_law_645 (by decide) (fun hc => ?_) (fun hc => absurd rfl hc)
  exact next X2 M2 H locs ls h3 hP hD hS hl
set_option maxHeartbeats 4000000 in
set_option maxRecDepth 100000 in
theorem law_c16 {p : Program} {l : Launch} {e : Env} {s : State} {m : MethodId} {below : List Frame} {meth : Method} {c : Code} {D : va_G} {cI cZ cM cS : ClassId} {b L : Nat} {xs : Nat → Int32} {ad : Nat → Nat} {ra : Nat → zSA} {Q : State → Prop} (hx : p.tables.exec = Jvm.exec) (hb : c.code = cL_law) (hml : c.maxLocals = 4) (hown : s.vm.findClass RL = some m.cls) (hts : ∀ w ∈ wsL_law, w.before #[Value.ref b] s = true) (hX : va_X b L xs s s.heap) (hbl : b < s.heap.size) (hL : L ≤ 2048) (hK : va_K D vwCl (zTy cI cZ cM cS) s) {Inv : zXV → zMV → Prop} {i : Nat} (hi : i + 4 ≤ L) (next : ∀ (X : zXV) (M : zMV) (H : Heap) (locs : List Loc) (ls : Array Slot), Inv X M → va_P D vwCl (wXX cI cZ cM cS ad ra X ++ wMM cI cZ cM cS ad M) H → va_D (fun q : Nat => s.heap.size ≤ q) (wXX cI cZ cM cS ad ra X ++ wMM cI cZ cM cS ad M) → va_S (fun q : Nat => s.heap.size ≤ q) s.heap H locs → lv_has ls 4 [(0, .ref b), (1, .ref (ad 0)), (2, .ref (ad 38)), (3, .int (nI i))] → W p l e room_1 s m #[Value.ref b] below meth c H locs 600000 7302250 Q (F0 m 870 ls [])) {X : zXV} {M : zMV} {H : Heap} {locs : List Loc} {ls : Array Slot} (hI : Inv X M) (hst : zStep Inv (x_refine (xs (i + 1))) (m_refine (xs (i + 1)))) (hP : va_P D vwCl (wXX cI cZ cM cS ad ra X ++ wMM cI cZ cM cS ad M) H) (hD : va_D (fun q : Nat => s.heap.size ≤ q) (wXX cI cZ cM cS ad ra X ++ wMM cI cZ cM cS ad M)) (hS : va_S (fun q : Nat => s.heap.size ≤ q) s.heap H locs) (hl : lv_has ls 4 [(0, .ref b), (1, .ref (ad 0)), (2, .ref (ad 38)), (3, .int (nI i))]) : W p l e room_1 s m #[Value.ref b] below meth c H locs 600000 7302250 Q (F0 m 650 ls []) := by
  have E : CallFix p m c cL_law 4 s #[Value.ref b] wsL_law RL := ⟨hx, hb, hml, hown, hts⟩
  have hA : ∀ q : Nat, s.heap.size ≤ q → (fun q : Nat => s.heap.size ≤ q) q := fun _ h => h
  have hbA : ¬ (fun q : Nat => s.heap.size ≤ q) b := Nat.not_le.mpr hbl
  obtain ⟨r, X2, M2, h1, h2, h3⟩ := hst X M hI
  refine lv_aload_n (pc := 650) hx hb dL_law_650 rfl (lv_at hl 1 rfl) ?_
  refine lv_aload_n (pc := 651) hx hb dL_law_651 rfl (lv_at hl 0 rfl) ?_
  refine lv_iload_n (pc := 652) hx hb dL_law_652 rfl (lv_at hl 3 rfl) ?_
  refine lv_iconst (v := (1 : Int32)) (pc := 653) hx hb dL_law_653 (by decide) ?_
  refine lv_iadd (pc := 654) hx hb dL_law_654 ?_
  refine z_sld (pc := 655) (j := i + 1) hx hb hX hbl hbA hS (nI_add i 1) (by omega) hL dL_law_655 ?_
  refine zVP (pc := 656) (As := [.int (xs (i + 1))]) (rest := []) (wc := wXX cI cZ cM cS ad ra X) (w1 := wXX cI cZ cM cS ad ra X2) (wr := wMM cI cZ cM cS ad M) (w2 := (wXX cI cZ cM cS ad ra X2 ++ wMM cI cZ cM cS ad M)) E (zcon_x_refine l D cI cZ cM cS ad ra (xs (i + 1)) X X2 r h1) 1 gL_law_X8_refine rfl rfl rfl (by decide +kernel) ⟨Nat.le_of_ble_eq_true rfl, Nat.le_of_ble_eq_true rfl⟩ hK hP hD hS hA (List.Perm.refl _) (List.Perm.refl _) 0 8 rfl rfl wXX_0 rfl hl.1 rfl (Nat.le_of_ble_eq_true rfl) dL_law_656 ⟨Nat.le_of_ble_eq_true rfl, Nat.le_of_ble_eq_true rfl⟩ (fun H locs hP hD hS => ?_)
  refine W.eq (g2 := F0 m 659 ls [.int r]) rfl ?_
  refine lv_aload_n (pc := 659) hx hb dL_law_659 rfl (lv_at hl 2 rfl) ?_
  refine lv_aload_n (pc := 660) hx hb dL_law_660 rfl (lv_at hl 0 rfl) ?_
  refine lv_iload_n (pc := 661) hx hb dL_law_661 rfl (lv_at hl 3 rfl) ?_
  refine lv_iconst (v := (1 : Int32)) (pc := 662) hx hb dL_law_662 (by decide) ?_
  refine lv_iadd (pc := 663) hx hb dL_law_663 ?_
  refine z_sld (pc := 664) (j := i + 1) hx hb hX hbl hbA hS (nI_add i 1) (by omega) hL dL_law_664 ?_
  obtain ⟨fs, hfs⟩ := wMM_0 (cI := cI) (cZ := cZ) (cM := cM) (cS := cS) (ad := ad) (M := M)
  refine zVP (pc := 665) (As := [.int (xs (i + 1))]) (rest := [.int r]) (wc := wMM cI cZ cM cS ad M) (w1 := wMM cI cZ cM cS ad M2) (wr := wXX cI cZ cM cS ad ra X2) (w2 := (wXX cI cZ cM cS ad ra X2 ++ wMM cI cZ cM cS ad M2)) E (zcon_m_refine l D cI cZ cM cS ad (xs (i + 1)) M M2 r h2) 1 gL_law_X9_refine rfl rfl rfl (by decide +kernel) ⟨Nat.le_of_ble_eq_true rfl, Nat.le_of_ble_eq_true rfl⟩ hK hP hD hS hA List.perm_append_comm List.perm_append_comm 0 9 rfl rfl hfs rfl hl.1 rfl (Nat.le_of_ble_eq_true rfl) dL_law_665 ⟨Nat.le_of_ble_eq_true rfl, Nat.le_of_ble_eq_true rfl⟩ (fun H locs hP hD hS => ?_)
  refine W.eq (g2 := F0 m 668 ls [.int r, .int r]) rfl ?_
  refine lv_icmp_eq (pc := 668) (tgt := 870) hx hb dL_law_668 (by decide) (fun hc => ?_) (fun hc => absurd rfl hc)
  exact next X2 M2 H locs ls h3 hP hD hS hl
set_option maxHeartbeats 4000000 in
set_option maxRecDepth 100000 in
theorem law_c17 {p : Program} {l : Launch} {e : Env} {s : State} {m : MethodId} {below : List Frame} {meth : Method} {c : Code} {D : va_G} {cI cZ cM cS : ClassId} {b L : Nat} {xs : Nat → Int32} {ad : Nat → Nat} {ra : Nat → zSA} {Q : State → Prop} (hx : p.tables.exec = Jvm.exec) (hb : c.code = cL_law) (hml : c.maxLocals = 4) (hown : s.vm.findClass RL = some m.cls) (hts : ∀ w ∈ wsL_law, w.before #[Value.ref b] s = true) (hX : va_X b L xs s s.heap) (hbl : b < s.heap.size) (hL : L ≤ 2048) (hK : va_K D vwCl (zTy cI cZ cM cS) s) {Inv : zXV → zMV → Prop} {i : Nat} (hi : i + 4 ≤ L) (next : ∀ (X : zXV) (M : zMV) (H : Heap) (locs : List Loc) (ls : Array Slot), Inv X M → va_P D vwCl (wXX cI cZ cM cS ad ra X ++ wMM cI cZ cM cS ad M) H → va_D (fun q : Nat => s.heap.size ≤ q) (wXX cI cZ cM cS ad ra X ++ wMM cI cZ cM cS ad M) → va_S (fun q : Nat => s.heap.size ≤ q) s.heap H locs → lv_has ls 4 [(0, .ref b), (1, .ref (ad 0)), (2, .ref (ad 38)), (3, .int (nI i))] → W p l e room_1 s m #[Value.ref b] below meth c H locs 600000 7302250 Q (F0 m 870 ls [])) {X : zXV} {M : zMV} {H : Heap} {locs : List Loc} {ls : Array Slot} (hI : Inv X M) (hst : zStep Inv (x_join (xs (i + 1))) (m_join (xs (i + 1)))) (hP : va_P D vwCl (wXX cI cZ cM cS ad ra X ++ wMM cI cZ cM cS ad M) H) (hD : va_D (fun q : Nat => s.heap.size ≤ q) (wXX cI cZ cM cS ad ra X ++ wMM cI cZ cM cS ad M)) (hS : va_S (fun q : Nat => s.heap.size ≤ q) s.heap H locs) (hl : lv_has ls 4 [(0, .ref b), (1, .ref (ad 0)), (2, .ref (ad 38)), (3, .int (nI i))]) : W p l e room_1 s m #[Value.ref b] below meth c H locs 600000 7302250 Q (F0 m 673 ls []) := by
  have E : CallFix p m c cL_law 4 s #[Value.ref b] wsL_law RL := ⟨hx, hb, hml, hown, hts⟩
  have hA : ∀ q : Nat, s.heap.size ≤ q → (fun q : Nat => s.heap.size ≤ q) q := fun _ h => h
  have hbA : ¬ (fun q : Nat => s.heap.size ≤ q) b := Nat.not_le.mpr hbl
  obtain ⟨r, X2, M2, h1, h2, h3⟩ := hst X M hI
  refine lv_aload_n (pc := 673) hx hb dL_law_673 rfl (lv_at hl 1 rfl) ?_
  refine lv_aload_n (pc := 674) hx hb dL_law_674 rfl (lv_at hl 0 rfl) ?_
  refine lv_iload_n (pc := 675) hx hb dL_law_675 rfl (lv_at hl 3 rfl) ?_
  refine lv_iconst (v := (1 : Int32)) (pc := 676) hx hb dL_law_676 (by decide) ?_
  refine lv_iadd (pc := 677) hx hb dL_law_677 ?_
  refine z_sld (pc := 678) (j := i + 1) hx hb hX hbl hbA hS (nI_add i 1) (by omega) hL dL_law_678 ?_
  refine zVP (pc := 679) (As := [.int (xs (i + 1))]) (rest := []) (wc := wXX cI cZ cM cS ad ra X) (w1 := wXX cI cZ cM cS ad ra X2) (wr := wMM cI cZ cM cS ad M) (w2 := (wXX cI cZ cM cS ad ra X2 ++ wMM cI cZ cM cS ad M)) E (zcon_x_join l D cI cZ cM cS ad ra (xs (i + 1)) X X2 r h1) 1 gL_law_X8_join rfl rfl rfl (by decide +kernel) ⟨Nat.le_of_ble_eq_true rfl, Nat.le_of_ble_eq_true rfl⟩ hK hP hD hS hA (List.Perm.refl _) (List.Perm.refl _) 0 8 rfl rfl wXX_0 rfl hl.1 rfl (Nat.le_of_ble_eq_true rfl) dL_law_679 ⟨Nat.le_of_ble_eq_true rfl, Nat.le_of_ble_eq_true rfl⟩ (fun H locs hP hD hS => ?_)
  refine W.eq (g2 := F0 m 682 ls [.int r]) rfl ?_
  refine lv_aload_n (pc := 682) hx hb dL_law_682 rfl (lv_at hl 2 rfl) ?_
  refine lv_aload_n (pc := 683) hx hb dL_law_683 rfl (lv_at hl 0 rfl) ?_
  refine lv_iload_n (pc := 684) hx hb dL_law_684 rfl (lv_at hl 3 rfl) ?_
  refine lv_iconst (v := (1 : Int32)) (pc := 685) hx hb dL_law_685 (by decide) ?_
  refine lv_iadd (pc := 686) hx hb dL_law_686 ?_
  refine z_sld (pc := 687) (j := i + 1) hx hb hX hbl hbA hS (nI_add i 1) (by omega) hL dL_law_687 ?_
  obtain ⟨fs, hfs⟩ := wMM_0 (cI := cI) (cZ := cZ) (cM := cM) (cS := cS) (ad := ad) (M := M)
  refine zVP (pc := 688) (As := [.int (xs (i + 1))]) (rest := [.int r]) (wc := wMM cI cZ cM cS ad M) (w1 := wMM cI cZ cM cS ad M2) (wr := wXX cI cZ cM cS ad ra X2) (w2 := (wXX cI cZ cM cS ad ra X2 ++ wMM cI cZ cM cS ad M2)) E (zcon_m_join l D cI cZ cM cS ad (xs (i + 1)) M M2 r h2) 1 gL_law_X9_join rfl rfl rfl (by decide +kernel) ⟨Nat.le_of_ble_eq_true rfl, Nat.le_of_ble_eq_true rfl⟩ hK hP hD hS hA List.perm_append_comm List.perm_append_comm 0 9 rfl rfl hfs rfl hl.1 rfl (Nat.le_of_ble_eq_true rfl) dL_law_688 ⟨Nat.le_of_ble_eq_true rfl, Nat.le_of_ble_eq_true rfl⟩ (fun H locs hP hD hS => ?_)
  refine W.eq (g2 := F0 m 691 ls [.int r, .int r]) rfl ?_
  refine lv_icmp_eq (pc := 691) (tgt := 870) hx hb dL_law_691 (by decide) (fun hc => ?_) (fun hc => absurd rfl hc)
  exact next X2 M2 H locs ls h3 hP hD hS hl
set_option maxHeartbeats 4000000 in
set_option maxRecDepth 100000 in
theorem law_c18 {p : Program} {l : Launch} {e : Env} {s : State} {m : MethodId} {below : List Frame} {meth : Method} {c : Code} {D : va_G} {cI cZ cM cS : ClassId} {b L : Nat} {xs : Nat → Int32} {ad : Nat → Nat} {ra : Nat → zSA} {Q : State → Prop} (hx : p.tables.exec = Jvm.exec) (hb : c.code = cL_law) (hml : c.maxLocals = 4) (hown : s.vm.findClass RL = some m.cls) (hts : ∀ w ∈ wsL_law, w.before #[Value.ref b] s = true) (hX : va_X b L xs s s.heap) (hbl : b < s.heap.size) (hL : L ≤ 2048) (hK : va_K D vwCl (zTy cI cZ cM cS) s) {Inv : zXV → zMV → Prop} {i : Nat} (hi : i + 4 ≤ L) (next : ∀ (X : zXV) (M : zMV) (H : Heap) (locs : List Loc) (ls : Array Slot), Inv X M → va_P D vwCl (wXX cI cZ cM cS ad ra X ++ wMM cI cZ cM cS ad M) H → va_D (fun q : Nat => s.heap.size ≤ q) (wXX cI cZ cM cS ad ra X ++ wMM cI cZ cM cS ad M) → va_S (fun q : Nat => s.heap.size ≤ q) s.heap H locs → lv_has ls 4 [(0, .ref b), (1, .ref (ad 0)), (2, .ref (ad 38)), (3, .int (nI i))] → W p l e room_1 s m #[Value.ref b] below meth c H locs 600000 7302250 Q (F0 m 870 ls [])) {X : zXV} {M : zMV} {H : Heap} {locs : List Loc} {ls : Array Slot} (hI : Inv X M) (hst : zStep Inv (x_arrange ) (m_arrange )) (hP : va_P D vwCl (wXX cI cZ cM cS ad ra X ++ wMM cI cZ cM cS ad M) H) (hD : va_D (fun q : Nat => s.heap.size ≤ q) (wXX cI cZ cM cS ad ra X ++ wMM cI cZ cM cS ad M)) (hS : va_S (fun q : Nat => s.heap.size ≤ q) s.heap H locs) (hl : lv_has ls 4 [(0, .ref b), (1, .ref (ad 0)), (2, .ref (ad 38)), (3, .int (nI i))]) : W p l e room_1 s m #[Value.ref b] below meth c H locs 600000 7302250 Q (F0 m 696 ls []) := by
  have E : CallFix p m c cL_law 4 s #[Value.ref b] wsL_law RL := ⟨hx, hb, hml, hown, hts⟩
  have hA : ∀ q : Nat, s.heap.size ≤ q → (fun q : Nat => s.heap.size ≤ q) q := fun _ h => h
  have hbA : ¬ (fun q : Nat => s.heap.size ≤ q) b := Nat.not_le.mpr hbl
  obtain ⟨r, X2, M2, h1, h2, h3⟩ := hst X M hI
  refine lv_aload_n (pc := 696) hx hb dL_law_696 rfl (lv_at hl 1 rfl) ?_
  refine zVP (pc := 697) (As := []) (rest := []) (wc := wXX cI cZ cM cS ad ra X) (w1 := wXX cI cZ cM cS ad ra X2) (wr := wMM cI cZ cM cS ad M) (w2 := (wXX cI cZ cM cS ad ra X2 ++ wMM cI cZ cM cS ad M)) E (zcon_x_arrange l D cI cZ cM cS ad ra X X2 r h1) 0 gL_law_X8_arrange rfl rfl rfl (by decide +kernel) ⟨Nat.le_of_ble_eq_true rfl, Nat.le_of_ble_eq_true rfl⟩ hK hP hD hS hA (List.Perm.refl _) (List.Perm.refl _) 0 8 rfl rfl wXX_0 rfl hl.1 rfl (Nat.le_of_ble_eq_true rfl) dL_law_697 ⟨Nat.le_of_ble_eq_true rfl, Nat.le_of_ble_eq_true rfl⟩ (fun H locs hP hD hS => ?_)
  refine W.eq (g2 := F0 m 700 ls [.int r]) rfl ?_
  refine lv_aload_n (pc := 700) hx hb dL_law_700 rfl (lv_at hl 2 rfl) ?_
  obtain ⟨fs, hfs⟩ := wMM_0 (cI := cI) (cZ := cZ) (cM := cM) (cS := cS) (ad := ad) (M := M)
  refine zVP (pc := 701) (As := []) (rest := [.int r]) (wc := wMM cI cZ cM cS ad M) (w1 := wMM cI cZ cM cS ad M2) (wr := wXX cI cZ cM cS ad ra X2) (w2 := (wXX cI cZ cM cS ad ra X2 ++ wMM cI cZ cM cS ad M2)) E (zcon_m_arrange l D cI cZ cM cS ad M M2 r h2) 0 gL_law_X9_arrange rfl rfl rfl (by decide +kernel) ⟨Nat.le_of_ble_eq_true rfl, Nat.le_of_ble_eq_true rfl⟩ hK hP hD hS hA List.perm_append_comm List.perm_append_comm 0 9 rfl rfl hfs rfl hl.1 rfl (Nat.le_of_ble_eq_true rfl) dL_law_701 ⟨Nat.le_of_ble_eq_true rfl, Nat.le_of_ble_eq_true rfl⟩ (fun H locs hP hD hS => ?_)
  refine W.eq (g2 := F0 m 704 ls [.int r, .int r]) rfl ?_
  refine lv_icmp_eq (pc := 704) (tgt := 870) hx hb dL_law_704 (by decide) (fun hc => ?_) (fun hc => absurd rfl hc)
  exact next X2 M2 H locs ls h3 hP hD hS hl
set_option maxHeartbeats 4000000 in
set_option maxRecDepth 100000 in
theorem law_c19 {p : Program} {l : Launch} {e : Env} {s : State} {m : MethodId} {below : List Frame} {meth : Method} {c : Code} {D : va_G} {cI cZ cM cS : ClassId} {b L : Nat} {xs : Nat → Int32} {ad : Nat → Nat} {ra : Nat → zSA} {Q : State → Prop} (hx : p.tables.exec = Jvm.exec) (hb : c.code = cL_law) (hml : c.maxLocals = 4) (hown : s.vm.findClass RL = some m.cls) (hts : ∀ w ∈ wsL_law, w.before #[Value.ref b] s = true) (hX : va_X b L xs s s.heap) (hbl : b < s.heap.size) (hL : L ≤ 2048) (hK : va_K D vwCl (zTy cI cZ cM cS) s) {Inv : zXV → zMV → Prop} {i : Nat} (hi : i + 4 ≤ L) (next : ∀ (X : zXV) (M : zMV) (H : Heap) (locs : List Loc) (ls : Array Slot), Inv X M → va_P D vwCl (wXX cI cZ cM cS ad ra X ++ wMM cI cZ cM cS ad M) H → va_D (fun q : Nat => s.heap.size ≤ q) (wXX cI cZ cM cS ad ra X ++ wMM cI cZ cM cS ad M) → va_S (fun q : Nat => s.heap.size ≤ q) s.heap H locs → lv_has ls 4 [(0, .ref b), (1, .ref (ad 0)), (2, .ref (ad 38)), (3, .int (nI i))] → W p l e room_1 s m #[Value.ref b] below meth c H locs 600000 7302250 Q (F0 m 870 ls [])) {X : zXV} {M : zMV} {H : Heap} {locs : List Loc} {ls : Array Slot} (hI : Inv X M) (hst : zStep Inv (x_drift (xs (i + 1))) (m_drift (xs (i + 1)))) (hP : va_P D vwCl (wXX cI cZ cM cS ad ra X ++ wMM cI cZ cM cS ad M) H) (hD : va_D (fun q : Nat => s.heap.size ≤ q) (wXX cI cZ cM cS ad ra X ++ wMM cI cZ cM cS ad M)) (hS : va_S (fun q : Nat => s.heap.size ≤ q) s.heap H locs) (hl : lv_has ls 4 [(0, .ref b), (1, .ref (ad 0)), (2, .ref (ad 38)), (3, .int (nI i))]) : W p l e room_1 s m #[Value.ref b] below meth c H locs 600000 7302250 Q (F0 m 709 ls []) := by
  have E : CallFix p m c cL_law 4 s #[Value.ref b] wsL_law RL := ⟨hx, hb, hml, hown, hts⟩
  have hA : ∀ q : Nat, s.heap.size ≤ q → (fun q : Nat => s.heap.size ≤ q) q := fun _ h => h
  have hbA : ¬ (fun q : Nat => s.heap.size ≤ q) b := Nat.not_le.mpr hbl
  obtain ⟨r, X2, M2, h1, h2, h3⟩ := hst X M hI
  refine lv_aload_n (pc := 709) hx hb dL_law_709 rfl (lv_at hl 1 rfl) ?_
  refine lv_aload_n (pc := 710) hx hb dL_law_710 rfl (lv_at hl 0 rfl) ?_
  refine lv_iload_n (pc := 711) hx hb dL_law_711 rfl (lv_at hl 3 rfl) ?_
  refine lv_iconst (v := (1 : Int32)) (pc := 712) hx hb dL_law_712 (by decide) ?_
  refine lv_iadd (pc := 713) hx hb dL_law_713 ?_
  refine z_sld (pc := 714) (j := i + 1) hx hb hX hbl hbA hS (nI_add i 1) (by omega) hL dL_law_714 ?_
  refine zVP (pc := 715) (As := [.int (xs (i + 1))]) (rest := []) (wc := wXX cI cZ cM cS ad ra X) (w1 := wXX cI cZ cM cS ad ra X2) (wr := wMM cI cZ cM cS ad M) (w2 := (wXX cI cZ cM cS ad ra X2 ++ wMM cI cZ cM cS ad M)) E (zcon_x_drift l D cI cZ cM cS ad ra (xs (i + 1)) X X2 r h1) 1 gL_law_X8_drift rfl rfl rfl (by decide +kernel) ⟨Nat.le_of_ble_eq_true rfl, Nat.le_of_ble_eq_true rfl⟩ hK hP hD hS hA (List.Perm.refl _) (List.Perm.refl _) 0 8 rfl rfl wXX_0 rfl hl.1 rfl (Nat.le_of_ble_eq_true rfl) dL_law_715 ⟨Nat.le_of_ble_eq_true rfl, Nat.le_of_ble_eq_true rfl⟩ (fun H locs hP hD hS => ?_)
  refine W.eq (g2 := F0 m 718 ls [.int r]) rfl ?_
  refine lv_aload_n (pc := 718) hx hb dL_law_718 rfl (lv_at hl 2 rfl) ?_
  refine lv_aload_n (pc := 719) hx hb dL_law_719 rfl (lv_at hl 0 rfl) ?_
  refine lv_iload_n (pc := 720) hx hb dL_law_720 rfl (lv_at hl 3 rfl) ?_
  refine lv_iconst (v := (1 : Int32)) (pc := 721) hx hb dL_law_721 (by decide) ?_
  refine lv_iadd (pc := 722) hx hb dL_law_722 ?_
  refine z_sld (pc := 723) (j := i + 1) hx hb hX hbl hbA hS (nI_add i 1) (by omega) hL dL_law_723 ?_
  obtain ⟨fs, hfs⟩ := wMM_0 (cI := cI) (cZ := cZ) (cM := cM) (cS := cS) (ad := ad) (M := M)
  refine zVP (pc := 724) (As := [.int (xs (i + 1))]) (rest := [.int r]) (wc := wMM cI cZ cM cS ad M) (w1 := wMM cI cZ cM cS ad M2) (wr := wXX cI cZ cM cS ad ra X2) (w2 := (wXX cI cZ cM cS ad ra X2 ++ wMM cI cZ cM cS ad M2)) E (zcon_m_drift l D cI cZ cM cS ad (xs (i + 1)) M M2 r h2) 1 gL_law_X9_drift rfl rfl rfl (by decide +kernel) ⟨Nat.le_of_ble_eq_true rfl, Nat.le_of_ble_eq_true rfl⟩ hK hP hD hS hA List.perm_append_comm List.perm_append_comm 0 9 rfl rfl hfs rfl hl.1 rfl (Nat.le_of_ble_eq_true rfl) dL_law_724 ⟨Nat.le_of_ble_eq_true rfl, Nat.le_of_ble_eq_true rfl⟩ (fun H locs hP hD hS => ?_)
  refine W.eq (g2 := F0 m 727 ls [.int r, .int r]) rfl ?_
  refine lv_icmp_eq (pc := 727) (tgt := 870) hx hb dL_law_727 (by decide) (fun hc => ?_) (fun hc => absurd rfl hc)
  exact next X2 M2 H locs ls h3 hP hD hS hl
set_option maxHeartbeats 4000000 in
set_option maxRecDepth 100000 in
theorem law_c20 {p : Program} {l : Launch} {e : Env} {s : State} {m : MethodId} {below : List Frame} {meth : Method} {c : Code} {D : va_G} {cI cZ cM cS : ClassId} {b L : Nat} {xs : Nat → Int32} {ad : Nat → Nat} {ra : Nat → zSA} {Q : State → Prop} (hx : p.tables.exec = Jvm.exec) (hb : c.code = cL_law) (hml : c.maxLocals = 4) (hown : s.vm.findClass RL = some m.cls) (hts : ∀ w ∈ wsL_law, w.before #[Value.ref b] s = true) (hX : va_X b L xs s s.heap) (hbl : b < s.heap.size) (hL : L ≤ 2048) (hK : va_K D vwCl (zTy cI cZ cM cS) s) {Inv : zXV → zMV → Prop} {i : Nat} (hi : i + 4 ≤ L) (next : ∀ (X : zXV) (M : zMV) (H : Heap) (locs : List Loc) (ls : Array Slot), Inv X M → va_P D vwCl (wXX cI cZ cM cS ad ra X ++ wMM cI cZ cM cS ad M) H → va_D (fun q : Nat => s.heap.size ≤ q) (wXX cI cZ cM cS ad ra X ++ wMM cI cZ cM cS ad M) → va_S (fun q : Nat => s.heap.size ≤ q) s.heap H locs → lv_has ls 4 [(0, .ref b), (1, .ref (ad 0)), (2, .ref (ad 38)), (3, .int (nI i))] → W p l e room_1 s m #[Value.ref b] below meth c H locs 600000 7302250 Q (F0 m 870 ls [])) {X : zXV} {M : zMV} {H : Heap} {locs : List Loc} {ls : Array Slot} (hI : Inv X M) (hst : zStep Inv (x_undo (xs (i + 1))) (m_undo (xs (i + 1)))) (hP : va_P D vwCl (wXX cI cZ cM cS ad ra X ++ wMM cI cZ cM cS ad M) H) (hD : va_D (fun q : Nat => s.heap.size ≤ q) (wXX cI cZ cM cS ad ra X ++ wMM cI cZ cM cS ad M)) (hS : va_S (fun q : Nat => s.heap.size ≤ q) s.heap H locs) (hl : lv_has ls 4 [(0, .ref b), (1, .ref (ad 0)), (2, .ref (ad 38)), (3, .int (nI i))]) : W p l e room_1 s m #[Value.ref b] below meth c H locs 600000 7302250 Q (F0 m 732 ls []) := by
  have E : CallFix p m c cL_law 4 s #[Value.ref b] wsL_law RL := ⟨hx, hb, hml, hown, hts⟩
  have hA : ∀ q : Nat, s.heap.size ≤ q → (fun q : Nat => s.heap.size ≤ q) q := fun _ h => h
  have hbA : ¬ (fun q : Nat => s.heap.size ≤ q) b := Nat.not_le.mpr hbl
  obtain ⟨r, X2, M2, h1, h2, h3⟩ := hst X M hI
  refine lv_aload_n (pc := 732) hx hb dL_law_732 rfl (lv_at hl 1 rfl) ?_
  refine lv_aload_n (pc := 733) hx hb dL_law_733 rfl (lv_at hl 0 rfl) ?_
  refine lv_iload_n (pc := 734) hx hb dL_law_734 rfl (lv_at hl 3 rfl) ?_
  refine lv_iconst (v := (1 : Int32)) (pc := 735) hx hb dL_law_735 (by decide) ?_
  refine lv_iadd (pc := 736) hx hb dL_law_736 ?_
  refine z_sld (pc := 737) (j := i + 1) hx hb hX hbl hbA hS (nI_add i 1) (by omega) hL dL_law_737 ?_
  refine zVP (pc := 738) (As := [.int (xs (i + 1))]) (rest := []) (wc := wXX cI cZ cM cS ad ra X) (w1 := wXX cI cZ cM cS ad ra X2) (wr := wMM cI cZ cM cS ad M) (w2 := (wXX cI cZ cM cS ad ra X2 ++ wMM cI cZ cM cS ad M)) E (zcon_x_undo l D cI cZ cM cS ad ra (xs (i + 1)) X X2 r h1) 1 gL_law_X8_undo rfl rfl rfl (by decide +kernel) ⟨Nat.le_of_ble_eq_true rfl, Nat.le_of_ble_eq_true rfl⟩ hK hP hD hS hA (List.Perm.refl _) (List.Perm.refl _) 0 8 rfl rfl wXX_0 rfl hl.1 rfl (Nat.le_of_ble_eq_true rfl) dL_law_738 ⟨Nat.le_of_ble_eq_true rfl, Nat.le_of_ble_eq_true rfl⟩ (fun H locs hP hD hS => ?_)
  refine W.eq (g2 := F0 m 741 ls [.int r]) rfl ?_
  refine lv_aload_n (pc := 741) hx hb dL_law_741 rfl (lv_at hl 2 rfl) ?_
  refine lv_aload_n (pc := 742) hx hb dL_law_742 rfl (lv_at hl 0 rfl) ?_
  refine lv_iload_n (pc := 743) hx hb dL_law_743 rfl (lv_at hl 3 rfl) ?_
  refine lv_iconst (v := (1 : Int32)) (pc := 744) hx hb dL_law_744 (by decide) ?_
  refine lv_iadd (pc := 745) hx hb dL_law_745 ?_
  refine z_sld (pc := 746) (j := i + 1) hx hb hX hbl hbA hS (nI_add i 1) (by omega) hL dL_law_746 ?_
  obtain ⟨fs, hfs⟩ := wMM_0 (cI := cI) (cZ := cZ) (cM := cM) (cS := cS) (ad := ad) (M := M)
  refine zVP (pc := 747) (As := [.int (xs (i + 1))]) (rest := [.int r]) (wc := wMM cI cZ cM cS ad M) (w1 := wMM cI cZ cM cS ad M2) (wr := wXX cI cZ cM cS ad ra X2) (w2 := (wXX cI cZ cM cS ad ra X2 ++ wMM cI cZ cM cS ad M2)) E (zcon_m_undo l D cI cZ cM cS ad (xs (i + 1)) M M2 r h2) 1 gL_law_X9_undo rfl rfl rfl (by decide +kernel) ⟨Nat.le_of_ble_eq_true rfl, Nat.le_of_ble_eq_true rfl⟩ hK hP hD hS hA List.perm_append_comm List.perm_append_comm 0 9 rfl rfl hfs rfl hl.1 rfl (Nat.le_of_ble_eq_true rfl) dL_law_747 ⟨Nat.le_of_ble_eq_true rfl, Nat.le_of_ble_eq_true rfl⟩ (fun H locs hP hD hS => ?_)
  refine W.eq (g2 := F0 m 750 ls [.int r, .int r]) rfl ?_
  refine lv_icmp_eq (pc := 750) (tgt := 870) hx hb dL_law_750 (by decide) (fun hc => ?_) (fun hc => absurd rfl hc)
  exact next X2 M2 H locs ls h3 hP hD hS hl
set_option maxHeartbeats 4000000 in
set_option maxRecDepth 100000 in
theorem law_c21 {p : Program} {l : Launch} {e : Env} {s : State} {m : MethodId} {below : List Frame} {meth : Method} {c : Code} {D : va_G} {cI cZ cM cS : ClassId} {b L : Nat} {xs : Nat → Int32} {ad : Nat → Nat} {ra : Nat → zSA} {Q : State → Prop} (hx : p.tables.exec = Jvm.exec) (hb : c.code = cL_law) (hml : c.maxLocals = 4) (hown : s.vm.findClass RL = some m.cls) (hts : ∀ w ∈ wsL_law, w.before #[Value.ref b] s = true) (hX : va_X b L xs s s.heap) (hbl : b < s.heap.size) (hL : L ≤ 2048) (hK : va_K D vwCl (zTy cI cZ cM cS) s) {Inv : zXV → zMV → Prop} {i : Nat} (hi : i + 4 ≤ L) (next : ∀ (X : zXV) (M : zMV) (H : Heap) (locs : List Loc) (ls : Array Slot), Inv X M → va_P D vwCl (wXX cI cZ cM cS ad ra X ++ wMM cI cZ cM cS ad M) H → va_D (fun q : Nat => s.heap.size ≤ q) (wXX cI cZ cM cS ad ra X ++ wMM cI cZ cM cS ad M) → va_S (fun q : Nat => s.heap.size ≤ q) s.heap H locs → lv_has ls 4 [(0, .ref b), (1, .ref (ad 0)), (2, .ref (ad 38)), (3, .int (nI i))] → W p l e room_1 s m #[Value.ref b] below meth c H locs 600000 7302250 Q (F0 m 870 ls [])) {X : zXV} {M : zMV} {H : Heap} {locs : List Loc} {ls : Array Slot} (hI : Inv X M) (hst : zStep Inv (x_write (xs (i + 1)) (xs (i + 2))) (m_write (xs (i + 1)) (xs (i + 2)))) (hP : va_P D vwCl (wXX cI cZ cM cS ad ra X ++ wMM cI cZ cM cS ad M) H) (hD : va_D (fun q : Nat => s.heap.size ≤ q) (wXX cI cZ cM cS ad ra X ++ wMM cI cZ cM cS ad M)) (hS : va_S (fun q : Nat => s.heap.size ≤ q) s.heap H locs) (hl : lv_has ls 4 [(0, .ref b), (1, .ref (ad 0)), (2, .ref (ad 38)), (3, .int (nI i))]) : W p l e room_1 s m #[Value.ref b] below meth c H locs 600000 7302250 Q (F0 m 755 ls []) := by
  have E : CallFix p m c cL_law 4 s #[Value.ref b] wsL_law RL := ⟨hx, hb, hml, hown, hts⟩
  have hA : ∀ q : Nat, s.heap.size ≤ q → (fun q : Nat => s.heap.size ≤ q) q := fun _ h => h
  have hbA : ¬ (fun q : Nat => s.heap.size ≤ q) b := Nat.not_le.mpr hbl
  obtain ⟨r, X2, M2, h1, h2, h3⟩ := hst X M hI
  refine lv_aload_n (pc := 755) hx hb dL_law_755 rfl (lv_at hl 1 rfl) ?_
  refine lv_aload_n (pc := 756) hx hb dL_law_756 rfl (lv_at hl 0 rfl) ?_
  refine lv_iload_n (pc := 757) hx hb dL_law_757 rfl (lv_at hl 3 rfl) ?_
  refine lv_iconst (v := (1 : Int32)) (pc := 758) hx hb dL_law_758 (by decide) ?_
  refine lv_iadd (pc := 759) hx hb dL_law_759 ?_
  refine z_sld (pc := 760) (j := i + 1) hx hb hX hbl hbA hS (nI_add i 1) (by omega) hL dL_law_760 ?_
  refine lv_aload_n (pc := 761) hx hb dL_law_761 rfl (lv_at hl 0 rfl) ?_
  refine lv_iload_n (pc := 762) hx hb dL_law_762 rfl (lv_at hl 3 rfl) ?_
  refine lv_iconst (v := (2 : Int32)) (pc := 763) hx hb dL_law_763 (by decide) ?_
  refine lv_iadd (pc := 764) hx hb dL_law_764 ?_
  refine z_sld (pc := 765) (j := i + 2) hx hb hX hbl hbA hS (nI_add i 2) (by omega) hL dL_law_765 ?_
  refine zVP (pc := 766) (As := [.int (xs (i + 1)), .int (xs (i + 2))]) (rest := []) (wc := wXX cI cZ cM cS ad ra X) (w1 := wXX cI cZ cM cS ad ra X2) (wr := wMM cI cZ cM cS ad M) (w2 := (wXX cI cZ cM cS ad ra X2 ++ wMM cI cZ cM cS ad M)) E (zcon_x_write l D cI cZ cM cS ad ra (xs (i + 1)) (xs (i + 2)) X X2 r h1) 2 gL_law_X8_write rfl rfl rfl (by decide +kernel) ⟨Nat.le_of_ble_eq_true rfl, Nat.le_of_ble_eq_true rfl⟩ hK hP hD hS hA (List.Perm.refl _) (List.Perm.refl _) 0 8 rfl rfl wXX_0 rfl hl.1 rfl (Nat.le_of_ble_eq_true rfl) dL_law_766 ⟨Nat.le_of_ble_eq_true rfl, Nat.le_of_ble_eq_true rfl⟩ (fun H locs hP hD hS => ?_)
  refine W.eq (g2 := F0 m 769 ls [.int r]) rfl ?_
  refine lv_aload_n (pc := 769) hx hb dL_law_769 rfl (lv_at hl 2 rfl) ?_
  refine lv_aload_n (pc := 770) hx hb dL_law_770 rfl (lv_at hl 0 rfl) ?_
  refine lv_iload_n (pc := 771) hx hb dL_law_771 rfl (lv_at hl 3 rfl) ?_
  refine lv_iconst (v := (1 : Int32)) (pc := 772) hx hb dL_law_772 (by decide) ?_
  refine lv_iadd (pc := 773) hx hb dL_law_773 ?_
  refine z_sld (pc := 774) (j := i + 1) hx hb hX hbl hbA hS (nI_add i 1) (by omega) hL dL_law_774 ?_
  refine lv_aload_n (pc := 775) hx hb dL_law_775 rfl (lv_at hl 0 rfl) ?_
  refine lv_iload_n (pc := 776) hx hb dL_law_776 rfl (lv_at hl 3 rfl) ?_
  refine lv_iconst (v := (2 : Int32)) (pc := 777) hx hb dL_law_777 (by decide) ?_
  refine lv_iadd (pc := 778) hx hb dL_law_778 ?_
  refine z_sld (pc := 779) (j := i + 2) hx hb hX hbl hbA hS (nI_add i 2) (by omega) hL dL_law_779 ?_
  obtain ⟨fs, hfs⟩ := wMM_0 (cI := cI) (cZ := cZ) (cM := cM) (cS := cS) (ad := ad) (M := M)
  refine zVP (pc := 780) (As := [.int (xs (i + 1)), .int (xs (i + 2))]) (rest := [.int r]) (wc := wMM cI cZ cM cS ad M) (w1 := wMM cI cZ cM cS ad M2) (wr := wXX cI cZ cM cS ad ra X2) (w2 := (wXX cI cZ cM cS ad ra X2 ++ wMM cI cZ cM cS ad M2)) E (zcon_m_write l D cI cZ cM cS ad (xs (i + 1)) (xs (i + 2)) M M2 r h2) 2 gL_law_X9_write rfl rfl rfl (by decide +kernel) ⟨Nat.le_of_ble_eq_true rfl, Nat.le_of_ble_eq_true rfl⟩ hK hP hD hS hA List.perm_append_comm List.perm_append_comm 0 9 rfl rfl hfs rfl hl.1 rfl (Nat.le_of_ble_eq_true rfl) dL_law_780 ⟨Nat.le_of_ble_eq_true rfl, Nat.le_of_ble_eq_true rfl⟩ (fun H locs hP hD hS => ?_)
  refine W.eq (g2 := F0 m 783 ls [.int r, .int r]) rfl ?_
  refine lv_icmp_eq (pc := 783) (tgt := 870) hx hb dL_law_783 (by decide) (fun hc => ?_) (fun hc => absurd rfl hc)
  exact next X2 M2 H locs ls h3 hP hD hS hl
set_option maxHeartbeats 4000000 in
set_option maxRecDepth 100000 in
theorem law_c22 {p : Program} {l : Launch} {e : Env} {s : State} {m : MethodId} {below : List Frame} {meth : Method} {c : Code} {D : va_G} {cI cZ cM cS : ClassId} {b L : Nat} {xs : Nat → Int32} {ad : Nat → Nat} {ra : Nat → zSA} {Q : State → Prop} (hx : p.tables.exec = Jvm.exec) (hb : c.code = cL_law) (hml : c.maxLocals = 4) (hown : s.vm.findClass RL = some m.cls) (hts : ∀ w ∈ wsL_law, w.before #[Value.ref b] s = true) (hX : va_X b L xs s s.heap) (hbl : b < s.heap.size) (hL : L ≤ 2048) (hK : va_K D vwCl (zTy cI cZ cM cS) s) {Inv : zXV → zMV → Prop} {i : Nat} (hi : i + 4 ≤ L) (next : ∀ (X : zXV) (M : zMV) (H : Heap) (locs : List Loc) (ls : Array Slot), Inv X M → va_P D vwCl (wXX cI cZ cM cS ad ra X ++ wMM cI cZ cM cS ad M) H → va_D (fun q : Nat => s.heap.size ≤ q) (wXX cI cZ cM cS ad ra X ++ wMM cI cZ cM cS ad M) → va_S (fun q : Nat => s.heap.size ≤ q) s.heap H locs → lv_has ls 4 [(0, .ref b), (1, .ref (ad 0)), (2, .ref (ad 38)), (3, .int (nI i))] → W p l e room_1 s m #[Value.ref b] below meth c H locs 600000 7302250 Q (F0 m 870 ls [])) {X : zXV} {M : zMV} {H : Heap} {locs : List Loc} {ls : Array Slot} (hI : Inv X M) (hst : zStep Inv (x_tear ) (m_tear )) (hP : va_P D vwCl (wXX cI cZ cM cS ad ra X ++ wMM cI cZ cM cS ad M) H) (hD : va_D (fun q : Nat => s.heap.size ≤ q) (wXX cI cZ cM cS ad ra X ++ wMM cI cZ cM cS ad M)) (hS : va_S (fun q : Nat => s.heap.size ≤ q) s.heap H locs) (hl : lv_has ls 4 [(0, .ref b), (1, .ref (ad 0)), (2, .ref (ad 38)), (3, .int (nI i))]) : W p l e room_1 s m #[Value.ref b] below meth c H locs 600000 7302250 Q (F0 m 788 ls []) := by
  have E : CallFix p m c cL_law 4 s #[Value.ref b] wsL_law RL := ⟨hx, hb, hml, hown, hts⟩
  have hA : ∀ q : Nat, s.heap.size ≤ q → (fun q : Nat => s.heap.size ≤ q) q := fun _ h => h
  have hbA : ¬ (fun q : Nat => s.heap.size ≤ q) b := Nat.not_le.mpr hbl
  obtain ⟨r, X2, M2, h1, h2, h3⟩ := hst X M hI
  refine lv_aload_n (pc := 788) hx hb dL_law_788 rfl (lv_at hl 1 rfl) ?_
  refine zVP (pc := 789) (As := []) (rest := []) (wc := wXX cI cZ cM cS ad ra X) (w1 := wXX cI cZ cM cS ad ra X2) (wr := wMM cI cZ cM cS ad M) (w2 := (wXX cI cZ cM cS ad ra X2 ++ wMM cI cZ cM cS ad M)) E (zcon_x_tear l D cI cZ cM cS ad ra X X2 r h1) 0 gL_law_X8_tear rfl rfl rfl (by decide +kernel) ⟨Nat.le_of_ble_eq_true rfl, Nat.le_of_ble_eq_true rfl⟩ hK hP hD hS hA (List.Perm.refl _) (List.Perm.refl _) 0 8 rfl rfl wXX_0 rfl hl.1 rfl (Nat.le_of_ble_eq_true rfl) dL_law_789 ⟨Nat.le_of_ble_eq_true rfl, Nat.le_of_ble_eq_true rfl⟩ (fun H locs hP hD hS => ?_)
  refine W.eq (g2 := F0 m 792 ls [.int r]) rfl ?_
  refine lv_aload_n (pc := 792) hx hb dL_law_792 rfl (lv_at hl 2 rfl) ?_
  obtain ⟨fs, hfs⟩ := wMM_0 (cI := cI) (cZ := cZ) (cM := cM) (cS := cS) (ad := ad) (M := M)
  refine zVP (pc := 793) (As := []) (rest := [.int r]) (wc := wMM cI cZ cM cS ad M) (w1 := wMM cI cZ cM cS ad M2) (wr := wXX cI cZ cM cS ad ra X2) (w2 := (wXX cI cZ cM cS ad ra X2 ++ wMM cI cZ cM cS ad M2)) E (zcon_m_tear l D cI cZ cM cS ad M M2 r h2) 0 gL_law_X9_tear rfl rfl rfl (by decide +kernel) ⟨Nat.le_of_ble_eq_true rfl, Nat.le_of_ble_eq_true rfl⟩ hK hP hD hS hA List.perm_append_comm List.perm_append_comm 0 9 rfl rfl hfs rfl hl.1 rfl (Nat.le_of_ble_eq_true rfl) dL_law_793 ⟨Nat.le_of_ble_eq_true rfl, Nat.le_of_ble_eq_true rfl⟩ (fun H locs hP hD hS => ?_)
  refine W.eq (g2 := F0 m 796 ls [.int r, .int r]) rfl ?_
  refine lv_icmp_eq (pc := 796) (tgt := 870) hx hb dL_law_796 (by decide) (fun hc => ?_) (fun hc => absurd rfl hc)
  exact next X2 M2 H locs ls h3 hP hD hS hl
set_option maxHeartbeats 4000000 in
set_option maxRecDepth 100000 in
theorem law_c23 {p : Program} {l : Launch} {e : Env} {s : State} {m : MethodId} {below : List Frame} {meth : Method} {c : Code} {D : va_G} {cI cZ cM cS : ClassId} {b L : Nat} {xs : Nat → Int32} {ad : Nat → Nat} {ra : Nat → zSA} {Q : State → Prop} (hx : p.tables.exec = Jvm.exec) (hb : c.code = cL_law) (hml : c.maxLocals = 4) (hown : s.vm.findClass RL = some m.cls) (hts : ∀ w ∈ wsL_law, w.before #[Value.ref b] s = true) (hX : va_X b L xs s s.heap) (hbl : b < s.heap.size) (hL : L ≤ 2048) (hK : va_K D vwCl (zTy cI cZ cM cS) s) {Inv : zXV → zMV → Prop} {i : Nat} (hi : i + 4 ≤ L) (next : ∀ (X : zXV) (M : zMV) (H : Heap) (locs : List Loc) (ls : Array Slot), Inv X M → va_P D vwCl (wXX cI cZ cM cS ad ra X ++ wMM cI cZ cM cS ad M) H → va_D (fun q : Nat => s.heap.size ≤ q) (wXX cI cZ cM cS ad ra X ++ wMM cI cZ cM cS ad M) → va_S (fun q : Nat => s.heap.size ≤ q) s.heap H locs → lv_has ls 4 [(0, .ref b), (1, .ref (ad 0)), (2, .ref (ad 38)), (3, .int (nI i))] → W p l e room_1 s m #[Value.ref b] below meth c H locs 600000 7302250 Q (F0 m 870 ls [])) {X : zXV} {M : zMV} {H : Heap} {locs : List Loc} {ls : Array Slot} (hI : Inv X M) (hst : zStep Inv (x_seed (xs (i + 1))) (m_seed (xs (i + 1)))) (hP : va_P D vwCl (wXX cI cZ cM cS ad ra X ++ wMM cI cZ cM cS ad M) H) (hD : va_D (fun q : Nat => s.heap.size ≤ q) (wXX cI cZ cM cS ad ra X ++ wMM cI cZ cM cS ad M)) (hS : va_S (fun q : Nat => s.heap.size ≤ q) s.heap H locs) (hl : lv_has ls 4 [(0, .ref b), (1, .ref (ad 0)), (2, .ref (ad 38)), (3, .int (nI i))]) : W p l e room_1 s m #[Value.ref b] below meth c H locs 600000 7302250 Q (F0 m 801 ls []) := by
  have E : CallFix p m c cL_law 4 s #[Value.ref b] wsL_law RL := ⟨hx, hb, hml, hown, hts⟩
  have hA : ∀ q : Nat, s.heap.size ≤ q → (fun q : Nat => s.heap.size ≤ q) q := fun _ h => h
  have hbA : ¬ (fun q : Nat => s.heap.size ≤ q) b := Nat.not_le.mpr hbl
  obtain ⟨r, X2, M2, h1, h2, h3⟩ := hst X M hI
  refine lv_aload_n (pc := 801) hx hb dL_law_801 rfl (lv_at hl 1 rfl) ?_
  refine lv_aload_n (pc := 802) hx hb dL_law_802 rfl (lv_at hl 0 rfl) ?_
  refine lv_iload_n (pc := 803) hx hb dL_law_803 rfl (lv_at hl 3 rfl) ?_
  refine lv_iconst (v := (1 : Int32)) (pc := 804) hx hb dL_law_804 (by decide) ?_
  refine lv_iadd (pc := 805) hx hb dL_law_805 ?_
  refine z_sld (pc := 806) (j := i + 1) hx hb hX hbl hbA hS (nI_add i 1) (by omega) hL dL_law_806 ?_
  refine zVP (pc := 807) (As := [.int (xs (i + 1))]) (rest := []) (wc := wXX cI cZ cM cS ad ra X) (w1 := wXX cI cZ cM cS ad ra X2) (wr := wMM cI cZ cM cS ad M) (w2 := (wXX cI cZ cM cS ad ra X2 ++ wMM cI cZ cM cS ad M)) E (zcon_x_seed l D cI cZ cM cS ad ra (xs (i + 1)) X X2 r h1) 1 gL_law_X8_seed rfl rfl rfl (by decide +kernel) ⟨Nat.le_of_ble_eq_true rfl, Nat.le_of_ble_eq_true rfl⟩ hK hP hD hS hA (List.Perm.refl _) (List.Perm.refl _) 0 8 rfl rfl wXX_0 rfl hl.1 rfl (Nat.le_of_ble_eq_true rfl) dL_law_807 ⟨Nat.le_of_ble_eq_true rfl, Nat.le_of_ble_eq_true rfl⟩ (fun H locs hP hD hS => ?_)
  refine W.eq (g2 := F0 m 810 ls [.int r]) rfl ?_
  refine lv_aload_n (pc := 810) hx hb dL_law_810 rfl (lv_at hl 2 rfl) ?_
  refine lv_aload_n (pc := 811) hx hb dL_law_811 rfl (lv_at hl 0 rfl) ?_
  refine lv_iload_n (pc := 812) hx hb dL_law_812 rfl (lv_at hl 3 rfl) ?_
  refine lv_iconst (v := (1 : Int32)) (pc := 813) hx hb dL_law_813 (by decide) ?_
  refine lv_iadd (pc := 814) hx hb dL_law_814 ?_
  refine z_sld (pc := 815) (j := i + 1) hx hb hX hbl hbA hS (nI_add i 1) (by omega) hL dL_law_815 ?_
  obtain ⟨fs, hfs⟩ := wMM_0 (cI := cI) (cZ := cZ) (cM := cM) (cS := cS) (ad := ad) (M := M)
  refine zVP (pc := 816) (As := [.int (xs (i + 1))]) (rest := [.int r]) (wc := wMM cI cZ cM cS ad M) (w1 := wMM cI cZ cM cS ad M2) (wr := wXX cI cZ cM cS ad ra X2) (w2 := (wXX cI cZ cM cS ad ra X2 ++ wMM cI cZ cM cS ad M2)) E (zcon_m_seed l D cI cZ cM cS ad (xs (i + 1)) M M2 r h2) 1 gL_law_X9_seed rfl rfl rfl (by decide +kernel) ⟨Nat.le_of_ble_eq_true rfl, Nat.le_of_ble_eq_true rfl⟩ hK hP hD hS hA List.perm_append_comm List.perm_append_comm 0 9 rfl rfl hfs rfl hl.1 rfl (Nat.le_of_ble_eq_true rfl) dL_law_816 ⟨Nat.le_of_ble_eq_true rfl, Nat.le_of_ble_eq_true rfl⟩ (fun H locs hP hD hS => ?_)
  refine W.eq (g2 := F0 m 819 ls [.int r, .int r]) rfl ?_
  refine lv_icmp_eq (pc := 819) (tgt := 870) hx hb dL_law_819 (by decide) (fun hc => ?_) (fun hc => absurd rfl hc)
  exact next X2 M2 H locs ls h3 hP hD hS hl
set_option maxHeartbeats 4000000 in
set_option maxRecDepth 100000 in
theorem law_c24 {p : Program} {l : Launch} {e : Env} {s : State} {m : MethodId} {below : List Frame} {meth : Method} {c : Code} {D : va_G} {cI cZ cM cS : ClassId} {b L : Nat} {xs : Nat → Int32} {ad : Nat → Nat} {ra : Nat → zSA} {Q : State → Prop} (hx : p.tables.exec = Jvm.exec) (hb : c.code = cL_law) (hml : c.maxLocals = 4) (hown : s.vm.findClass RL = some m.cls) (hts : ∀ w ∈ wsL_law, w.before #[Value.ref b] s = true) (hX : va_X b L xs s s.heap) (hbl : b < s.heap.size) (hL : L ≤ 2048) (hK : va_K D vwCl (zTy cI cZ cM cS) s) {Inv : zXV → zMV → Prop} {i : Nat} (hi : i + 4 ≤ L) (next : ∀ (X : zXV) (M : zMV) (H : Heap) (locs : List Loc) (ls : Array Slot), Inv X M → va_P D vwCl (wXX cI cZ cM cS ad ra X ++ wMM cI cZ cM cS ad M) H → va_D (fun q : Nat => s.heap.size ≤ q) (wXX cI cZ cM cS ad ra X ++ wMM cI cZ cM cS ad M) → va_S (fun q : Nat => s.heap.size ≤ q) s.heap H locs → lv_has ls 4 [(0, .ref b), (1, .ref (ad 0)), (2, .ref (ad 38)), (3, .int (nI i))] → W p l e room_1 s m #[Value.ref b] below meth c H locs 600000 7302250 Q (F0 m 870 ls [])) {X : zXV} {M : zMV} {H : Heap} {locs : List Loc} {ls : Array Slot} (hI : Inv X M) (hst : zStep Inv (x_keep (xs (i + 1))) (m_keep (xs (i + 1)))) (hP : va_P D vwCl (wXX cI cZ cM cS ad ra X ++ wMM cI cZ cM cS ad M) H) (hD : va_D (fun q : Nat => s.heap.size ≤ q) (wXX cI cZ cM cS ad ra X ++ wMM cI cZ cM cS ad M)) (hS : va_S (fun q : Nat => s.heap.size ≤ q) s.heap H locs) (hl : lv_has ls 4 [(0, .ref b), (1, .ref (ad 0)), (2, .ref (ad 38)), (3, .int (nI i))]) : W p l e room_1 s m #[Value.ref b] below meth c H locs 600000 7302250 Q (F0 m 824 ls []) := by
  have E : CallFix p m c cL_law 4 s #[Value.ref b] wsL_law RL := ⟨hx, hb, hml, hown, hts⟩
  have hA : ∀ q : Nat, s.heap.size ≤ q → (fun q : Nat => s.heap.size ≤ q) q := fun _ h => h
  have hbA : ¬ (fun q : Nat => s.heap.size ≤ q) b := Nat.not_le.mpr hbl
  obtain ⟨r, X2, M2, h1, h2, h3⟩ := hst X M hI
  unfold x_keep at h1
  by_cases hcon : xs (i + 1) = 0
  · rw [if_pos hcon] at h1
    refine lv_aload_n (pc := 824) hx hb dL_law_824 rfl (lv_at hl 1 rfl) ?_
    refine lv_aload_n (pc := 825) hx hb dL_law_825 rfl (lv_at hl 0 rfl) ?_
    refine lv_iload_n (pc := 826) hx hb dL_law_826 rfl (lv_at hl 3 rfl) ?_
    refine lv_iconst (v := (1 : Int32)) (pc := 827) hx hb dL_law_827 (by decide) ?_
    refine lv_iadd (pc := 828) hx hb dL_law_828 ?_
    refine z_sld (pc := 829) (j := i + 1) hx hb hX hbl hbA hS (nI_add i 1) (by omega) hL dL_law_829 ?_
    rw [hcon]
    refine zVP (pc := 830) (As := [.int (0 : Int32)]) (rest := []) (wc := wXX cI cZ cM cS ad ra X) (w1 := wXX cI cZ cM cS ad ra X2) (wr := wMM cI cZ cM cS ad M) (w2 := (wXX cI cZ cM cS ad ra X2 ++ wMM cI cZ cM cS ad M)) E (zcon_x_keep0 l D cI cZ cM cS ad ra X X2 r h1) 1 gL_law_X8_keep rfl rfl rfl (by decide +kernel) ⟨Nat.le_of_ble_eq_true rfl, Nat.le_of_ble_eq_true rfl⟩ hK hP hD hS hA (List.Perm.refl _) (List.Perm.refl _) 0 8 rfl rfl wXX_0 rfl hl.1 rfl (Nat.le_of_ble_eq_true rfl) dL_law_830 ⟨Nat.le_of_ble_eq_true rfl, Nat.le_of_ble_eq_true rfl⟩ (fun H locs hP hD hS => ?_)
    refine W.eq (g2 := F0 m 833 ls [.int r]) rfl ?_
    refine lv_aload_n (pc := 833) hx hb dL_law_833 rfl (lv_at hl 2 rfl) ?_
    refine lv_aload_n (pc := 834) hx hb dL_law_834 rfl (lv_at hl 0 rfl) ?_
    refine lv_iload_n (pc := 835) hx hb dL_law_835 rfl (lv_at hl 3 rfl) ?_
    refine lv_iconst (v := (1 : Int32)) (pc := 836) hx hb dL_law_836 (by decide) ?_
    refine lv_iadd (pc := 837) hx hb dL_law_837 ?_
    refine z_sld (pc := 838) (j := i + 1) hx hb hX hbl hbA hS (nI_add i 1) (by omega) hL dL_law_838 ?_
    obtain ⟨fs, hfs⟩ := wMM_0 (cI := cI) (cZ := cZ) (cM := cM) (cS := cS) (ad := ad) (M := M)
    refine zVP (pc := 839) (As := [.int (xs (i + 1))]) (rest := [.int r]) (wc := wMM cI cZ cM cS ad M) (w1 := wMM cI cZ cM cS ad M2) (wr := wXX cI cZ cM cS ad ra X2) (w2 := (wXX cI cZ cM cS ad ra X2 ++ wMM cI cZ cM cS ad M2)) E (zcon_m_keep l D cI cZ cM cS ad (xs (i + 1)) M M2 r h2) 1 gL_law_X9_keep rfl rfl rfl (by decide +kernel) ⟨Nat.le_of_ble_eq_true rfl, Nat.le_of_ble_eq_true rfl⟩ hK hP hD hS hA List.perm_append_comm List.perm_append_comm 0 9 rfl rfl hfs rfl hl.1 rfl (Nat.le_of_ble_eq_true rfl) dL_law_839 ⟨Nat.le_of_ble_eq_true rfl, Nat.le_of_ble_eq_true rfl⟩ (fun H locs hP hD hS => ?_)
    refine W.eq (g2 := F0 m 842 ls [.int r, .int r]) rfl ?_
    refine lv_icmp_eq (pc := 842) (tgt := 870) hx hb dL_law_842 (by decide) (fun hc => ?_) (fun hc => absurd rfl hc)
    exact next X2 M2 H locs ls h3 hP hD hS hl
  rw [if_neg hcon] at h1
  clear hcon
  by_cases hcon : xs (i + 1) = 1
  · rw [if_pos hcon] at h1
    refine lv_aload_n (pc := 824) hx hb dL_law_824 rfl (lv_at hl 1 rfl) ?_
    refine lv_aload_n (pc := 825) hx hb dL_law_825 rfl (lv_at hl 0 rfl) ?_
    refine lv_iload_n (pc := 826) hx hb dL_law_826 rfl (lv_at hl 3 rfl) ?_
    refine lv_iconst (v := (1 : Int32)) (pc := 827) hx hb dL_law_827 (by decide) ?_
    refine lv_iadd (pc := 828) hx hb dL_law_828 ?_
    refine z_sld (pc := 829) (j := i + 1) hx hb hX hbl hbA hS (nI_add i 1) (by omega) hL dL_law_829 ?_
    rw [hcon]
    refine zVP (pc := 830) (As := [.int (1 : Int32)]) (rest := []) (wc := wXX cI cZ cM cS ad ra X) (w1 := wXX cI cZ cM cS ad ra X2) (wr := wMM cI cZ cM cS ad M) (w2 := (wXX cI cZ cM cS ad ra X2 ++ wMM cI cZ cM cS ad M)) E (zcon_x_keep1 l D cI cZ cM cS ad ra X X2 r h1) 1 gL_law_X8_keep rfl rfl rfl (by decide +kernel) ⟨Nat.le_of_ble_eq_true rfl, Nat.le_of_ble_eq_true rfl⟩ hK hP hD hS hA (List.Perm.refl _) (List.Perm.refl _) 0 8 rfl rfl wXX_0 rfl hl.1 rfl (Nat.le_of_ble_eq_true rfl) dL_law_830 ⟨Nat.le_of_ble_eq_true rfl, Nat.le_of_ble_eq_true rfl⟩ (fun H locs hP hD hS => ?_)
    refine W.eq (g2 := F0 m 833 ls [.int r]) rfl ?_
    refine lv_aload_n (pc := 833) hx hb dL_law_833 rfl (lv_at hl 2 rfl) ?_
    refine lv_aload_n (pc := 834) hx hb dL_law_834 rfl (lv_at hl 0 rfl) ?_
    refine lv_iload_n (pc := 835) hx hb dL_law_835 rfl (lv_at hl 3 rfl) ?_
    refine lv_iconst (v := (1 : Int32)) (pc := 836) hx hb dL_law_836 (by decide) ?_
    refine lv_iadd (pc := 837) hx hb dL_law_837 ?_
    refine z_sld (pc := 838) (j := i + 1) hx hb hX hbl hbA hS (nI_add i 1) (by omega) hL dL_law_838 ?_
    obtain ⟨fs, hfs⟩ := wMM_0 (cI := cI) (cZ := cZ) (cM := cM) (cS := cS) (ad := ad) (M := M)
    refine zVP (pc := 839) (As := [.int (xs (i + 1))]) (rest := [.int r]) (wc := wMM cI cZ cM cS ad M) (w1 := wMM cI cZ cM cS ad M2) (wr := wXX cI cZ cM cS ad ra X2) (w2 := (wXX cI cZ cM cS ad ra X2 ++ wMM cI cZ cM cS ad M2)) E (zcon_m_keep l D cI cZ cM cS ad (xs (i + 1)) M M2 r h2) 1 gL_law_X9_keep rfl rfl rfl (by decide +kernel) ⟨Nat.le_of_ble_eq_true rfl, Nat.le_of_ble_eq_true rfl⟩ hK hP hD hS hA List.perm_append_comm List.perm_append_comm 0 9 rfl rfl hfs rfl hl.1 rfl (Nat.le_of_ble_eq_true rfl) dL_law_839 ⟨Nat.le_of_ble_eq_true rfl, Nat.le_of_ble_eq_true rfl⟩ (fun H locs hP hD hS => ?_)
    refine W.eq (g2 := F0 m 842 ls [.int r, .int r]) rfl ?_
    refine lv_icmp_eq (pc := 842) (tgt := 870) hx hb dL_law_842 (by decide) (fun hc => ?_) (fun hc => absurd rfl hc)
    exact next X2 M2 H locs ls h3 hP hD hS hl
  rw [if_neg hcon] at h1
  refine lv_aload_n (pc := 824) hx hb dL_law_824 rfl (lv_at hl 1 rfl) ?_
  refine lv_aload_n (pc := 825) hx hb dL_law_825 rfl (lv_at hl 0 rfl) ?_
  refine lv_iload_n (pc := 826) hx hb dL_law_826 rfl (lv_at hl 3 rfl) ?_
  refine lv_iconst (v := (1 : Int32)) (pc := 827) hx hb dL_law_827 (by decide) ?_
  refine lv_iadd (pc := 828) hx hb dL_law_828 ?_
  refine z_sld (pc := 829) (j := i + 1) hx hb hX hbl hbA hS (nI_add i 1) (by omega) hL dL_law_829 ?_
  refine zVP (pc := 830) (As := [.int (xs (i + 1))]) (rest := []) (wc := wXX cI cZ cM cS ad ra X) (w1 := wXX cI cZ cM cS ad ra X2) (wr := wMM cI cZ cM cS ad M) (w2 := (wXX cI cZ cM cS ad ra X2 ++ wMM cI cZ cM cS ad M)) E (zcon_x_keepx l D cI cZ cM cS ad ra (xs (i + 1)) X X2 r h1) 1 gL_law_X8_keep rfl rfl rfl (by decide +kernel) ⟨Nat.le_of_ble_eq_true rfl, Nat.le_of_ble_eq_true rfl⟩ hK hP hD hS hA (List.Perm.refl _) (List.Perm.refl _) 0 8 rfl rfl wXX_0 rfl hl.1 rfl (Nat.le_of_ble_eq_true rfl) dL_law_830 ⟨Nat.le_of_ble_eq_true rfl, Nat.le_of_ble_eq_true rfl⟩ (fun H locs hP hD hS => ?_)
  refine W.eq (g2 := F0 m 833 ls [.int r]) rfl ?_
  refine lv_aload_n (pc := 833) hx hb dL_law_833 rfl (lv_at hl 2 rfl) ?_
  refine lv_aload_n (pc := 834) hx hb dL_law_834 rfl (lv_at hl 0 rfl) ?_
  refine lv_iload_n (pc := 835) hx hb dL_law_835 rfl (lv_at hl 3 rfl) ?_
  refine lv_iconst (v := (1 : Int32)) (pc := 836) hx hb dL_law_836 (by decide) ?_
  refine lv_iadd (pc := 837) hx hb dL_law_837 ?_
  refine z_sld (pc := 838) (j := i + 1) hx hb hX hbl hbA hS (nI_add i 1) (by omega) hL dL_law_838 ?_
  obtain ⟨fs, hfs⟩ := wMM_0 (cI := cI) (cZ := cZ) (cM := cM) (cS := cS) (ad := ad) (M := M)
  refine zVP (pc := 839) (As := [.int (xs (i + 1))]) (rest := [.int r]) (wc := wMM cI cZ cM cS ad M) (w1 := wMM cI cZ cM cS ad M2) (wr := wXX cI cZ cM cS ad ra X2) (w2 := (wXX cI cZ cM cS ad ra X2 ++ wMM cI cZ cM cS ad M2)) E (zcon_m_keep l D cI cZ cM cS ad (xs (i + 1)) M M2 r h2) 1 gL_law_X9_keep rfl rfl rfl (by decide +kernel) ⟨Nat.le_of_ble_eq_true rfl, Nat.le_of_ble_eq_true rfl⟩ hK hP hD hS hA List.perm_append_comm List.perm_append_comm 0 9 rfl rfl hfs rfl hl.1 rfl (Nat.le_of_ble_eq_true rfl) dL_law_839 ⟨Nat.le_of_ble_eq_true rfl, Nat.le_of_ble_eq_true rfl⟩ (fun H locs hP hD hS => ?_)
  refine W.eq (g2 := F0 m 842 ls [.int r, .int r]) rfl ?_
  refine lv_icmp_eq (pc := 842) (tgt := 870) hx hb dL_law_842 (by decide) (fun hc => ?_) (fun hc => absurd rfl hc)
  exact next X2 M2 H locs ls h3 hP hD hS hl
set_option maxHeartbeats 4000000 in
set_option maxRecDepth 100000 in
theorem law_c25 {p : Program} {l : Launch} {e : Env} {s : State} {m : MethodId} {below : List Frame} {meth : Method} {c : Code} {D : va_G} {cI cZ cM cS : ClassId} {b L : Nat} {xs : Nat → Int32} {ad : Nat → Nat} {ra : Nat → zSA} {Q : State → Prop} (hx : p.tables.exec = Jvm.exec) (hb : c.code = cL_law) (hml : c.maxLocals = 4) (hown : s.vm.findClass RL = some m.cls) (hts : ∀ w ∈ wsL_law, w.before #[Value.ref b] s = true) (hX : va_X b L xs s s.heap) (hbl : b < s.heap.size) (hL : L ≤ 2048) (hK : va_K D vwCl (zTy cI cZ cM cS) s) {Inv : zXV → zMV → Prop} {i : Nat} (hi : i + 4 ≤ L) (next : ∀ (X : zXV) (M : zMV) (H : Heap) (locs : List Loc) (ls : Array Slot), Inv X M → va_P D vwCl (wXX cI cZ cM cS ad ra X ++ wMM cI cZ cM cS ad M) H → va_D (fun q : Nat => s.heap.size ≤ q) (wXX cI cZ cM cS ad ra X ++ wMM cI cZ cM cS ad M) → va_S (fun q : Nat => s.heap.size ≤ q) s.heap H locs → lv_has ls 4 [(0, .ref b), (1, .ref (ad 0)), (2, .ref (ad 38)), (3, .int (nI i))] → W p l e room_1 s m #[Value.ref b] below meth c H locs 600000 7302250 Q (F0 m 870 ls [])) {X : zXV} {M : zMV} {H : Heap} {locs : List Loc} {ls : Array Slot} (hI : Inv X M) (hst : zStep Inv (x_goBack (xs (i + 1))) (m_goBack (xs (i + 1)))) (hP : va_P D vwCl (wXX cI cZ cM cS ad ra X ++ wMM cI cZ cM cS ad M) H) (hD : va_D (fun q : Nat => s.heap.size ≤ q) (wXX cI cZ cM cS ad ra X ++ wMM cI cZ cM cS ad M)) (hS : va_S (fun q : Nat => s.heap.size ≤ q) s.heap H locs) (hl : lv_has ls 4 [(0, .ref b), (1, .ref (ad 0)), (2, .ref (ad 38)), (3, .int (nI i))]) : W p l e room_1 s m #[Value.ref b] below meth c H locs 600000 7302250 Q (F0 m 847 ls []) := by
  have E : CallFix p m c cL_law 4 s #[Value.ref b] wsL_law RL := ⟨hx, hb, hml, hown, hts⟩
  have hA : ∀ q : Nat, s.heap.size ≤ q → (fun q : Nat => s.heap.size ≤ q) q := fun _ h => h
  have hbA : ¬ (fun q : Nat => s.heap.size ≤ q) b := Nat.not_le.mpr hbl
  obtain ⟨r, X2, M2, h1, h2, h3⟩ := hst X M hI
  unfold x_goBack at h1
  by_cases hcon : xs (i + 1) = 0
  · rw [if_pos hcon] at h1
    refine lv_aload_n (pc := 847) hx hb dL_law_847 rfl (lv_at hl 1 rfl) ?_
    refine lv_aload_n (pc := 848) hx hb dL_law_848 rfl (lv_at hl 0 rfl) ?_
    refine lv_iload_n (pc := 849) hx hb dL_law_849 rfl (lv_at hl 3 rfl) ?_
    refine lv_iconst (v := (1 : Int32)) (pc := 850) hx hb dL_law_850 (by decide) ?_
    refine lv_iadd (pc := 851) hx hb dL_law_851 ?_
    refine z_sld (pc := 852) (j := i + 1) hx hb hX hbl hbA hS (nI_add i 1) (by omega) hL dL_law_852 ?_
    rw [hcon]
    refine zVP (pc := 853) (As := [.int (0 : Int32)]) (rest := []) (wc := wXX cI cZ cM cS ad ra X) (w1 := wXX cI cZ cM cS ad ra X2) (wr := wMM cI cZ cM cS ad M) (w2 := (wXX cI cZ cM cS ad ra X2 ++ wMM cI cZ cM cS ad M)) E (zcon_x_goBack0 l D cI cZ cM cS ad ra X X2 r h1) 1 gL_law_X8_goBack rfl rfl rfl (by decide +kernel) ⟨Nat.le_of_ble_eq_true rfl, Nat.le_of_ble_eq_true rfl⟩ hK hP hD hS hA (List.Perm.refl _) (List.Perm.refl _) 0 8 rfl rfl wXX_0 rfl hl.1 rfl (Nat.le_of_ble_eq_true rfl) dL_law_853 ⟨Nat.le_of_ble_eq_true rfl, Nat.le_of_ble_eq_true rfl⟩ (fun H locs hP hD hS => ?_)
    refine W.eq (g2 := F0 m 856 ls [.int r]) rfl ?_
    refine lv_aload_n (pc := 856) hx hb dL_law_856 rfl (lv_at hl 2 rfl) ?_
    refine lv_aload_n (pc := 857) hx hb dL_law_857 rfl (lv_at hl 0 rfl) ?_
    refine lv_iload_n (pc := 858) hx hb dL_law_858 rfl (lv_at hl 3 rfl) ?_
    refine lv_iconst (v := (1 : Int32)) (pc := 859) hx hb dL_law_859 (by decide) ?_
    refine lv_iadd (pc := 860) hx hb dL_law_860 ?_
    refine z_sld (pc := 861) (j := i + 1) hx hb hX hbl hbA hS (nI_add i 1) (by omega) hL dL_law_861 ?_
    obtain ⟨fs, hfs⟩ := wMM_0 (cI := cI) (cZ := cZ) (cM := cM) (cS := cS) (ad := ad) (M := M)
    refine zVP (pc := 862) (As := [.int (xs (i + 1))]) (rest := [.int r]) (wc := wMM cI cZ cM cS ad M) (w1 := wMM cI cZ cM cS ad M2) (wr := wXX cI cZ cM cS ad ra X2) (w2 := (wXX cI cZ cM cS ad ra X2 ++ wMM cI cZ cM cS ad M2)) E (zcon_m_goBack l D cI cZ cM cS ad (xs (i + 1)) M M2 r h2) 1 gL_law_X9_goBack rfl rfl rfl (by decide +kernel) ⟨Nat.le_of_ble_eq_true rfl, Nat.le_of_ble_eq_true rfl⟩ hK hP hD hS hA List.perm_append_comm List.perm_append_comm 0 9 rfl rfl hfs rfl hl.1 rfl (Nat.le_of_ble_eq_true rfl) dL_law_862 ⟨Nat.le_of_ble_eq_true rfl, Nat.le_of_ble_eq_true rfl⟩ (fun H locs hP hD hS => ?_)
    refine W.eq (g2 := F0 m 865 ls [.int r, .int r]) rfl ?_
    refine lv_icmp_eq (pc := 865) (tgt := 870) hx hb dL_law_865 (by decide) (fun hc => ?_) (fun hc => absurd rfl hc)
    exact next X2 M2 H locs ls h3 hP hD hS hl
  rw [if_neg hcon] at h1
  clear hcon
  by_cases hcon : xs (i + 1) = 1
  · rw [if_pos hcon] at h1
    refine lv_aload_n (pc := 847) hx hb dL_law_847 rfl (lv_at hl 1 rfl) ?_
    refine lv_aload_n (pc := 848) hx hb dL_law_848 rfl (lv_at hl 0 rfl) ?_
    refine lv_iload_n (pc := 849) hx hb dL_law_849 rfl (lv_at hl 3 rfl) ?_
    refine lv_iconst (v := (1 : Int32)) (pc := 850) hx hb dL_law_850 (by decide) ?_
    refine lv_iadd (pc := 851) hx hb dL_law_851 ?_
    refine z_sld (pc := 852) (j := i + 1) hx hb hX hbl hbA hS (nI_add i 1) (by omega) hL dL_law_852 ?_
    rw [hcon]
    refine zVP (pc := 853) (As := [.int (1 : Int32)]) (rest := []) (wc := wXX cI cZ cM cS ad ra X) (w1 := wXX cI cZ cM cS ad ra X2) (wr := wMM cI cZ cM cS ad M) (w2 := (wXX cI cZ cM cS ad ra X2 ++ wMM cI cZ cM cS ad M)) E (zcon_x_goBack1 l D cI cZ cM cS ad ra X X2 r h1) 1 gL_law_X8_goBack rfl rfl rfl (by decide +kernel) ⟨Nat.le_of_ble_eq_true rfl, Nat.le_of_ble_eq_true rfl⟩ hK hP hD hS hA (List.Perm.refl _) (List.Perm.refl _) 0 8 rfl rfl wXX_0 rfl hl.1 rfl (Nat.le_of_ble_eq_true rfl) dL_law_853 ⟨Nat.le_of_ble_eq_true rfl, Nat.le_of_ble_eq_true rfl⟩ (fun H locs hP hD hS => ?_)
    refine W.eq (g2 := F0 m 856 ls [.int r]) rfl ?_
    refine lv_aload_n (pc := 856) hx hb dL_law_856 rfl (lv_at hl 2 rfl) ?_
    refine lv_aload_n (pc := 857) hx hb dL_law_857 rfl (lv_at hl 0 rfl) ?_
    refine lv_iload_n (pc := 858) hx hb dL_law_858 rfl (lv_at hl 3 rfl) ?_
    refine lv_iconst (v := (1 : Int32)) (pc := 859) hx hb dL_law_859 (by decide) ?_
    refine lv_iadd (pc := 860) hx hb dL_law_860 ?_
    refine z_sld (pc := 861) (j := i + 1) hx hb hX hbl hbA hS (nI_add i 1) (by omega) hL dL_law_861 ?_
    obtain ⟨fs, hfs⟩ := wMM_0 (cI := cI) (cZ := cZ) (cM := cM) (cS := cS) (ad := ad) (M := M)
    refine zVP (pc := 862) (As := [.int (xs (i + 1))]) (rest := [.int r]) (wc := wMM cI cZ cM cS ad M) (w1 := wMM cI cZ cM cS ad M2) (wr := wXX cI cZ cM cS ad ra X2) (w2 := (wXX cI cZ cM cS ad ra X2 ++ wMM cI cZ cM cS ad M2)) E (zcon_m_goBack l D cI cZ cM cS ad (xs (i + 1)) M M2 r h2) 1 gL_law_X9_goBack rfl rfl rfl (by decide +kernel) ⟨Nat.le_of_ble_eq_true rfl, Nat.le_of_ble_eq_true rfl⟩ hK hP hD hS hA List.perm_append_comm List.perm_append_comm 0 9 rfl rfl hfs rfl hl.1 rfl (Nat.le_of_ble_eq_true rfl) dL_law_862 ⟨Nat.le_of_ble_eq_true rfl, Nat.le_of_ble_eq_true rfl⟩ (fun H locs hP hD hS => ?_)
    refine W.eq (g2 := F0 m 865 ls [.int r, .int r]) rfl ?_
    refine lv_icmp_eq (pc := 865) (tgt := 870) hx hb dL_law_865 (by decide) (fun hc => ?_) (fun hc => absurd rfl hc)
    exact next X2 M2 H locs ls h3 hP hD hS hl
  rw [if_neg hcon] at h1
  refine lv_aload_n (pc := 847) hx hb dL_law_847 rfl (lv_at hl 1 rfl) ?_
  refine lv_aload_n (pc := 848) hx hb dL_law_848 rfl (lv_at hl 0 rfl) ?_
  refine lv_iload_n (pc := 849) hx hb dL_law_849 rfl (lv_at hl 3 rfl) ?_
  refine lv_iconst (v := (1 : Int32)) (pc := 850) hx hb dL_law_850 (by decide) ?_
  refine lv_iadd (pc := 851) hx hb dL_law_851 ?_
  refine z_sld (pc := 852) (j := i + 1) hx hb hX hbl hbA hS (nI_add i 1) (by omega) hL dL_law_852 ?_
  refine zVP (pc := 853) (As := [.int (xs (i + 1))]) (rest := []) (wc := wXX cI cZ cM cS ad ra X) (w1 := wXX cI cZ cM cS ad ra X2) (wr := wMM cI cZ cM cS ad M) (w2 := (wXX cI cZ cM cS ad ra X2 ++ wMM cI cZ cM cS ad M)) E (zcon_x_goBackx l D cI cZ cM cS ad ra (xs (i + 1)) X X2 r h1) 1 gL_law_X8_goBack rfl rfl rfl (by decide +kernel) ⟨Nat.le_of_ble_eq_true rfl, Nat.le_of_ble_eq_true rfl⟩ hK hP hD hS hA (List.Perm.refl _) (List.Perm.refl _) 0 8 rfl rfl wXX_0 rfl hl.1 rfl (Nat.le_of_ble_eq_true rfl) dL_law_853 ⟨Nat.le_of_ble_eq_true rfl, Nat.le_of_ble_eq_true rfl⟩ (fun H locs hP hD hS => ?_)
  refine W.eq (g2 := F0 m 856 ls [.int r]) rfl ?_
  refine lv_aload_n (pc := 856) hx hb dL_law_856 rfl (lv_at hl 2 rfl) ?_
  refine lv_aload_n (pc := 857) hx hb dL_law_857 rfl (lv_at hl 0 rfl) ?_
  refine lv_iload_n (pc := 858) hx hb dL_law_858 rfl (lv_at hl 3 rfl) ?_
  refine lv_iconst (v := (1 : Int32)) (pc := 859) hx hb dL_law_859 (by decide) ?_
  refine lv_iadd (pc := 860) hx hb dL_law_860 ?_
  refine z_sld (pc := 861) (j := i + 1) hx hb hX hbl hbA hS (nI_add i 1) (by omega) hL dL_law_861 ?_
  obtain ⟨fs, hfs⟩ := wMM_0 (cI := cI) (cZ := cZ) (cM := cM) (cS := cS) (ad := ad) (M := M)
  refine zVP (pc := 862) (As := [.int (xs (i + 1))]) (rest := [.int r]) (wc := wMM cI cZ cM cS ad M) (w1 := wMM cI cZ cM cS ad M2) (wr := wXX cI cZ cM cS ad ra X2) (w2 := (wXX cI cZ cM cS ad ra X2 ++ wMM cI cZ cM cS ad M2)) E (zcon_m_goBack l D cI cZ cM cS ad (xs (i + 1)) M M2 r h2) 1 gL_law_X9_goBack rfl rfl rfl (by decide +kernel) ⟨Nat.le_of_ble_eq_true rfl, Nat.le_of_ble_eq_true rfl⟩ hK hP hD hS hA List.perm_append_comm List.perm_append_comm 0 9 rfl rfl hfs rfl hl.1 rfl (Nat.le_of_ble_eq_true rfl) dL_law_862 ⟨Nat.le_of_ble_eq_true rfl, Nat.le_of_ble_eq_true rfl⟩ (fun H locs hP hD hS => ?_)
  refine W.eq (g2 := F0 m 865 ls [.int r, .int r]) rfl ?_
  refine lv_icmp_eq (pc := 865) (tgt := 870) hx hb dL_law_865 (by decide) (fun hc => ?_) (fun hc => absurd rfl hc)
  exact next X2 M2 H locs ls h3 hP hD hS hl
