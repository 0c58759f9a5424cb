/-! ===== the last five ===== -/
section ZH
variable {sn sl sfin swk : Int32} {scols snear slds : zF} {qc : Int32} {qf st : zF} {N L : Nat} {go : Nat → Nat → Nat} {Ls : List Int32}
theorem walk_ok (h : zRel sn sl sfin swk scols snear slds qc qf st N L go Ls) {q : Nat} (hq : q < N) (ord earl : zF) (kc : Int32) (kf : zF) (d s e : Int32) (nr asd sea : zF) : ∃ (o : Nat → Nat) (ord2 earl2 : zF) (kc2 : Int32) (kf2 nr2 asd2 sea2 : zF), fX7_walkFrom (nI q) ord earl kc kf sn sl sfin swk snear = some (ord2, earl2, kc2, kf2) ∧ fX9_searches (nI q) d s e st nr asd sea = some (nr2, asd2, sea2) ∧ (∀ k, k < N → o k < N) ∧ (∀ i, i < N → ∃ k, k < N ∧ o k = i) ∧ (∀ k, k < N → ord2 k = nI (o k) ∧ earl2 k = zsn o k) ∧ (∀ k, k < N → sea2 k = nI (o k)) := by
  obtain ⟨⟨hN1, hN⟩, ⟨hL1, hL⟩, ⟨en, eb0⟩, ⟨el, eb1⟩, ⟨ef, hfs⟩, ew, hcols, hnear, hsym, hirr, hgo, hrc, hok, hcov, hrm⟩ := h
  obtain ⟨ord2, earl2, kc2, kf2, e1, g1⟩ := walkX_ok hN1 hN sl sfin swk snear hq ord earl kc kf
  obtain ⟨nr2, asd2, sea2, e2, g2⟩ := walkM_ok hN1 hN eb0 (near := snear) (fun i hi => (hnear i hi).1.symm) hq d s e nr asd sea
  have hok0 := zspl_ok (s := (1 : Int32) <<< (nI q &&& 31)) (zall_ok hN1 hN)
  have hcov0 : ∀ i, i < N → zpos (zspl ((1 : Int32) <<< (nI q &&& 31)) [zall N]) i ≠ none := fun i hi h => by
    rw [zspl_none (zall_ok hN1 hN), zall_pos hN hi] at h
    cases h
  have hw := zWk_step (near := snear) hN hok0 hcov0
  have ho : ∀ k, k < N → zhd (zW snear (zspl ((1 : Int32) <<< (nI q &&& 31)) [zall N]) k) < N := by
    intro k hk
    obtain ⟨x, r, hx, hlt, -⟩ := zWk_next hN hk (hw k (by omega))
    rw [hx]
    exact hlt
  refine ⟨fun k => zhd (zW snear (zspl ((1 : Int32) <<< (nI q &&& 31)) [zall N]) k), ord2, earl2, kc2, kf2, nr2, asd2, sea2, by rw [en]; exact e1, e2, ho, fun i hi => ?_, g1, g2⟩
  obtain ⟨-, -, h3, h4⟩ := hw N (Nat.le_refl _)
  rw [zcnt_sub hN h4, zcn_all] at h3
  exact (zsn_bt (by omega) N (fun j hj => by have := ho j hj; omega)).mp (h3 i hi)
theorem search_ok (h : zRel sn sl sfin swk scols snear slds qc qf st N L go Ls) (p1 p2 : Int32) (ord earl : zF) (kc : Int32) (kf : zF) (d s e : Int32) (nr asd sea : zF) : ∃ r o2 e2 k2 f2 n2 a2 s2, fX8_search p1 p2 sn sl sfin swk snear ord earl kc kf = some (r, o2, e2, k2, f2) ∧ fX9_search p1 p2 d s e st nr asd sea = some (r, n2, a2, s2) := by
  have h0 := h
  obtain ⟨⟨hN1, hN⟩, -, ⟨en, eb0⟩, -⟩ := h
  unfold fX8_search fX9_search
  rcases zcases p1 (show N < 2 ^ 31 by omega) with ⟨i, hi, rfl⟩ | hx
  · rcases zcases p2 (show N < 2 ^ 31 by omega) with ⟨j, hj, rfl⟩ | hx
    · obtain ⟨o, o2, e2, k2, f2, n2, a2, s2, e1, e3, g1, g2, g3, g4⟩ := walk_ok h0 hi ord earl kc kf d s e nr asd sea
      rw [e1, e3, en, hasItem_in hi hN, hasItem_in hj hN, isItem_in hi hN eb0, isItem_in hj hN eb0]
      simp only [ob1_some, if_neg n10, ob4_some, ob3_some]
      rw [ogd_ok (by omega) (by omega), ogd_ok (by omega) (by omega), zcl (by omega), (g3 j hj).1, g4 j hj]
      exact ⟨_, _, _, _, _, _, _, _, rfl, rfl⟩
    · rw [en, hasItem_in hi hN, hasItem_out hx, isItem_in hi hN eb0, isItem_out hN1 hN hx eb0]
      exact ⟨_, _, _, _, _, _, _, _, rfl, rfl⟩
  · rw [en, hasItem_out hx, isItem_out hN1 hN hx eb0]
    exact ⟨_, _, _, _, _, _, _, _, rfl, rfl⟩
theorem apart_ok (h : zRel sn sl sfin swk scols snear slds qc qf st N L go Ls) (p1 p2 : Int32) (bc : Int32) (bf : zF) (zc : Int32) (zf : zF) (d s e : Int32) (prs far met : zF) : ∃ r b1 b2 c f x1 x2 x3, fX8_apart p1 p2 sn sl sfin swk slds bc bf zc zf = some (r, b1, b2, c, f) ∧ fX9_apart p1 p2 d s e st prs far met = some (r, x1, x2, x3) := by
  obtain ⟨⟨hN1, hN⟩, ⟨hL1, hL⟩, ⟨en, eb0⟩, ⟨el, eb1⟩, ⟨ef, hfs⟩, ew, hcols, hnear, hsym, hirr, hgo, hrc, hok, hcov, hrm⟩ := h
  subst en el
  unfold fX8_apart
  rcases zcases p1 (show N < 2 ^ 31 by omega) with ⟨i, hi, rfl⟩ | hx
  · rcases zcases p2 (show N < 2 ^ 31 by omega) with ⟨j, hj, rfl⟩ | hx
    · obtain ⟨x, b1, b2, c, f, e1, g1⟩ := shortX_ok (fin := sfin) hN1 hN hL swk (go := go) (slds := slds) (fun c i hc hi => ⟨(hgo c i hc hi).1, (hgo c i hc hi).2.1⟩) hi hj bc bf zc zf
      obtain ⟨y, x1, x2, x3, e2, g2⟩ := apartM_ok (fin := sfin) hN hL eb0 eb1 ef.symm (go := go) (fun c i hc hi => ⟨(hgo c i hc hi).1, (hgo c i hc hi).2.2⟩) hi hj d s e prs far met
      have hxy := zAns_uniq g1 g2
      subst hxy
      rw [e1, e2, hasItem_in hi hN, hasItem_in hj hN]
      exact ⟨_, _, _, _, _, _, _, _, rfl, rfl⟩
    · unfold fX9_apart
      rw [hasItem_in hi hN, hasItem_out hx, isItem_in hi hN eb0, isItem_out hN1 hN hx eb0]
      exact ⟨_, _, _, _, _, _, _, _, rfl, rfl⟩
  · unfold fX9_apart
    rw [hasItem_out hx, isItem_out hN1 hN hx eb0]
    exact ⟨_, _, _, _, _, _, _, _, rfl, rfl⟩
theorem faultN_ok (h : zRel sn sl sfin swk scols snear slds qc qf st N L go Ls) (ord earl : zF) (kc : Int32) (kf : zF) (d s e : Int32) (nr asd sea : zF) : ∃ r o2 e2 k2 f2 n2 a2 s2, fX7_walkFrom 0 ord earl kc kf sn sl sfin swk snear = some (o2, e2, k2, f2) ∧ fX7_fault o2 e2 sn sl sfin swk snear = some r ∧ fX9_faultNow d s e st nr asd sea = some (r, n2, a2, s2) ∧ (r = -1 → ∃ v, fX7_clique o2 e2 sn sl sfin swk snear = some v ∧ olp (fX9_cliqueNow_s14 st) oFu ((0 : Int32), (0 : Int32)) = some v) := by
  have h0 := h
  obtain ⟨⟨hN1, hN⟩, ⟨hL1, hL⟩, ⟨en, eb0⟩, ⟨el, eb1⟩, ⟨ef, hfs⟩, ew, hcols, hnear, hsym, hirr, hgo, hrc, hok, hcov, hrm⟩ := h
  obtain ⟨o, o2, e2, k2, f2, n2, a2, s2, e1, e3, g1, g2, g3, g4⟩ := walk_ok h0 (q := 0) (by omega) ord earl kc kf d s e nr asd sea
  have e1 : fX7_walkFrom 0 ord earl kc kf sn sl sfin swk snear = some (o2, e2, k2, f2) := e1
  have e3 : fX9_searches 0 d s e st nr asd sea = some (n2, a2, s2) := e3
  have hn : ∀ i, i < N → st (16 + i) = snear i := fun i hi => (hnear i hi).1.symm
  obtain ⟨r, x1, x2, x3⟩ := fault_ok hN g1 g3 eb0 hn g4 sl sfin swk n2 a2
  subst en
  refine ⟨r, o2, e2, k2, f2, n2, a2, s2, e1, x1, ?_, fun hr => ?_⟩
  · unfold fX9_faultNow
    rw [e3, ob3_some]
    exact x2
  · have hnb := x3 hr
    have c1 := cliqueX_ok hN g1 g3 (fun i hi => zsub_le (hnear i hi).2 hN) sl sfin swk
    have c2 := cliqueM_ok hN eb0 hn
    rw [clique_eq hN g1 g2 (fun i hi => (hnear i hi).2) hsym hirr hnb] at c1
    exact ⟨_, c1, c2⟩
theorem told_ok (h : zRel sn sl sfin swk scols snear slds qc qf st N L go Ls) {hct deeds kn ent dst : Int32} {kits kcls bits bcls : zF} (hb : zBook kn kits kcls ent bits bcls) (hd : hct = deeds) (p1 hnx bc : Int32) (bf ord earl : zF) (kc : Int32) (kf : zF) (zc : Int32) (zf nr ia inw asd sea : zF) : ∃ r b1 b2 o2 e2 k2 f2 c3 f3 n2 i2 w2 a2 s2, fX8_told p1 sn sl sfin swk scols snear slds qc qf hnx hct kn kits kcls bc bf ord earl kc kf zc zf dst = some (r, b1, b2, o2, e2, k2, f2, c3, f3) ∧ fX9_told p1 deeds dst ent st bits bcls nr ia inw asd sea = some (r, n2, i2, w2, a2, s2) := by
  have h0 := h
  have hcl := clsM_ok h deeds dst ent
  obtain ⟨ec, x1, x2⟩ := edgeN_ok h deeds dst ent
  obtain ⟨ew0, x3, x4⟩ := wrong_ok h hb deeds dst
  obtain ⟨r, o2, e2, k2, f2, n2, a2, s2, y1, y2, y3, y4⟩ := faultN_ok h ord earl kc kf deeds dst ent nr asd sea
  obtain ⟨⟨hN1, hN⟩, ⟨hL1, hL⟩, ⟨en, eb0⟩, ⟨el, eb1⟩, ⟨ef, hfs⟩, ew, -, -, -, -, -, hrc, -, -, -⟩ := h
  have hke : kn = ent := by
    obtain ⟨n, -, q1, q2, -⟩ := hb
    rw [q1, q2]
  unfold fX8_told fX9_told
  by_cases k0 : p1 = 0
  · rw [if_pos k0, if_pos k0, en, eb0]
    exact ⟨_, _, _, _, _, _, _, _, _, _, _, _, _, _, rfl, rfl⟩
  rw [if_neg k0, if_neg k0]
  by_cases k1 : p1 = 1
  · rw [if_pos k1, if_pos k1, hcl, hrc.1]
    exact ⟨_, _, _, _, _, _, _, _, _, _, _, _, _, _, rfl, rfl⟩
  rw [if_neg k1, if_neg k1]
  by_cases k2 : p1 = 2
  · rw [if_pos k2, if_pos k2, ew]
    exact ⟨_, _, _, _, _, _, _, _, _, _, _, _, _, _, rfl, rfl⟩
  rw [if_neg k2, if_neg k2]
  by_cases k3 : p1 = 3
  · rw [if_pos k3, if_pos k3, x1, x2]
    exact ⟨_, _, _, _, _, _, _, _, _, _, _, _, _, _, rfl, rfl⟩
  rw [if_neg k3, if_neg k3]
  by_cases k4 : p1 = 4
  · rw [if_pos k4, if_pos k4, el, eb1]
    exact ⟨_, _, _, _, _, _, _, _, _, _, _, _, _, _, rfl, rfl⟩
  rw [if_neg k4, if_neg k4]
  by_cases k5 : p1 = 5
  · rw [if_pos k5, if_pos k5, ef]
    exact ⟨_, _, _, _, _, _, _, _, _, _, _, _, _, _, rfl, rfl⟩
  rw [if_neg k5, if_neg k5]
  by_cases k6 : p1 = 6 ∨ p1 = 7 ∨ p1 = 8 ∨ p1 = 9 ∨ p1 = 10
  · rw [if_pos k6, if_pos k6]
    have hp : p1 - 6 = 0 ∨ p1 - 6 = 1 ∨ p1 - 6 = 2 ∨ p1 - 6 = 3 ∨ p1 - 6 = 4 := by
      rcases k6 with rfl | rfl | rfl | rfl | rfl <;> decide
    obtain ⟨b1, b2, c, f, n1, i1, w1, a1, z1, z2⟩ := many_ok h0 hp deeds dst ent bc zc bf zf nr ia inw asd
    rw [z1, z2]
    exact ⟨_, _, _, _, _, _, _, _, _, _, _, _, _, _, rfl, rfl⟩
  rw [if_neg k6, if_neg k6]
  by_cases k11 : p1 = 11
  · rw [if_pos k11, if_pos k11, y1, ob4_some, y2, y3]
    exact ⟨_, _, _, _, _, _, _, _, _, _, _, _, _, _, rfl, rfl⟩
  rw [if_neg k11, if_neg k11]
  by_cases k12 : p1 = 12
  · rw [if_pos k12, if_pos k12, y1, ob4_some, y2, ob1_some]
    unfold fX9_cliqueNow
    rw [y3, ob4_some]
    by_cases hr : r = -1
    · obtain ⟨v, v1, v2⟩ := y4 hr
      rw [if_pos hr, if_pos hr, v1, v2]
      exact ⟨_, _, _, _, _, _, _, _, _, _, _, _, _, _, rfl, rfl⟩
    · rw [if_neg hr, if_neg hr]
      exact ⟨_, _, _, _, _, _, _, _, _, _, _, _, _, _, rfl, rfl⟩
  rw [if_neg k12, if_neg k12]
  by_cases k13 : p1 = 13
  · rw [if_pos k13, if_pos k13, hke]
    exact ⟨_, _, _, _, _, _, _, _, _, _, _, _, _, _, rfl, rfl⟩
  rw [if_neg k13, if_neg k13]
  by_cases k14 : p1 = 14
  · rw [if_pos k14, if_pos k14, x3, x4]
    exact ⟨_, _, _, _, _, _, _, _, _, _, _, _, _, _, rfl, rfl⟩
  rw [if_neg k14, if_neg k14]
  by_cases k15 : p1 = 15
  · rw [if_pos k15, if_pos k15, hd]
    exact ⟨_, _, _, _, _, _, _, _, _, _, _, _, _, _, rfl, rfl⟩
  rw [if_neg k15, if_neg k15]
  by_cases k16 : p1 = 16
  · rw [if_pos k16, if_pos k16]
    exact ⟨_, _, _, _, _, _, _, _, _, _, _, _, _, _, rfl, rfl⟩
  rw [if_neg k16, if_neg k16]
  exact ⟨_, _, _, _, _, _, _, _, _, _, _, _, _, _, rfl, rfl⟩
end ZH
theorem s_told (p1 : Int32) : zStep zInv (x_told p1) (m_told p1) := by
  rintro ⟨⟨sn, sl, sfin, swk, scols, snear, slds, qc, qf⟩, ⟨hnx, hct⟩, ⟨kn, kits, kcls⟩, ⟨k0, d0, man, mal, mafin, mawk, macols, manear, malds, nac, naf⟩, ⟨k1, d1, mbn, mbl, mbfin, mbwk, mbcols, mbnear, mblds, nbc, nbf⟩, ⟨bc, bf⟩, ⟨ord, earl, kc, kf⟩, ⟨zc, zf⟩, dst, rg⟩ ⟨⟨deeds, sd, ent⟩, ⟨st, past, img, kept, bits, bcls⟩, ⟨nr, ia, inw, asd, prs, far, met, sea⟩⟩ ⟨⟨N, L, go, Ls, hr⟩, hH, hB, hI0, hI1, hd, hs⟩
  dsimp only at hr hH hB hI0 hI1 hd hs
  subst hd
  have hHd : hct = deeds := by
    obtain ⟨hp, dd, -, -, -, q1, q2, -⟩ := hH
    rw [q1, q2]
  obtain ⟨r, b1, b2, o2, e2, k2, f2, c3, f3, n2, i2, w2, a2, s2, z1, z2⟩ := told_ok hr hB hHd (dst := dst) p1 hnx bc bf ord earl kc kf zc zf nr ia inw asd sea
  simp only [x_told, m_told]
  rw [z1, z2]
  exact ⟨_, _, _, rfl, rfl, ⟨⟨N, L, go, Ls, hr⟩, hH, hB, hI0, hI1, rfl, hs⟩⟩
theorem s_alike (p1 p2 p3 : Int32) : zStep zInv (x_alike p1 p2 p3) (m_alike p1 p2 p3) := by
  rintro ⟨⟨sn, sl, sfin, swk, scols, snear, slds, qc, qf⟩, ⟨hnx, hct⟩, ⟨kn, kits, kcls⟩, ⟨k0, d0, man, mal, mafin, mawk, macols, manear, malds, nac, naf⟩, ⟨k1, d1, mbn, mbl, mbfin, mbwk, mbcols, mbnear, mblds, nbc, nbf⟩, ⟨bc, bf⟩, ⟨ord, earl, kc, kf⟩, ⟨zc, zf⟩, dst, rg⟩ ⟨⟨deeds, sd, ent⟩, ⟨st, past, img, kept, bits, bcls⟩, ⟨nr, ia, inw, asd, prs, far, met, sea⟩⟩ ⟨⟨N, L, go, Ls, hr⟩, hH, hB, hI0, hI1, hd, hs⟩
  dsimp only at hr hH hB hI0 hI1 hd hs
  subst hd
  obtain ⟨r, b1, b2, c, f, n1, i1, w1, a1, z1, z2⟩ := alike_ok hr p1 p2 p3 deeds dst ent bc zc bf zf nr ia inw asd
  simp only [x_alike, m_alike]
  rw [z1, z2]
  exact ⟨_, _, _, rfl, rfl, ⟨⟨N, L, go, Ls, hr⟩, hH, hB, hI0, hI1, rfl, hs⟩⟩
theorem s_apart (p1 p2 : Int32) : zStep zInv (x_apart p1 p2) (m_apart p1 p2) := by
  rintro ⟨⟨sn, sl, sfin, swk, scols, snear, slds, qc, qf⟩, ⟨hnx, hct⟩, ⟨kn, kits, kcls⟩, ⟨k0, d0, man, mal, mafin, mawk, macols, manear, malds, nac, naf⟩, ⟨k1, d1, mbn, mbl, mbfin, mbwk, mbcols, mbnear, mblds, nbc, nbf⟩, ⟨bc, bf⟩, ⟨ord, earl, kc, kf⟩, ⟨zc, zf⟩, dst, rg⟩ ⟨⟨deeds, sd, ent⟩, ⟨st, past, img, kept, bits, bcls⟩, ⟨nr, ia, inw, asd, prs, far, met, sea⟩⟩ ⟨⟨N, L, go, Ls, hr⟩, hH, hB, hI0, hI1, hd, hs⟩
  dsimp only at hr hH hB hI0 hI1 hd hs
  subst hd
  obtain ⟨r, b1, b2, c, f, x1, x2, x3, z1, z2⟩ := apart_ok hr p1 p2 bc bf zc zf deeds dst ent prs far met
  simp only [x_apart, m_apart]
  rw [z1, z2]
  exact ⟨_, _, _, rfl, rfl, ⟨⟨N, L, go, Ls, hr⟩, hH, hB, hI0, hI1, rfl, hs⟩⟩
theorem s_search (p1 p2 : Int32) : zStep zInv (x_search p1 p2) (m_search p1 p2) := by
  rintro ⟨⟨sn, sl, sfin, swk, scols, snear, slds, qc, qf⟩, ⟨hnx, hct⟩, ⟨kn, kits, kcls⟩, ⟨k0, d0, man, mal, mafin, mawk, macols, manear, malds, nac, naf⟩, ⟨k1, d1, mbn, mbl, mbfin, mbwk, mbcols, mbnear, mblds, nbc, nbf⟩, ⟨bc, bf⟩, ⟨ord, earl, kc, kf⟩, ⟨zc, zf⟩, dst, rg⟩ ⟨⟨deeds, sd, ent⟩, ⟨st, past, img, kept, bits, bcls⟩, ⟨nr, ia, inw, asd, prs, far, met, sea⟩⟩ ⟨⟨N, L, go, Ls, hr⟩, hH, hB, hI0, hI1, hd, hs⟩
  dsimp only at hr hH hB hI0 hI1 hd hs
  subst hd
  obtain ⟨r, o2, e2, k2, f2, n2, a2, s2, z1, z2⟩ := search_ok hr p1 p2 ord earl kc kf deeds dst ent nr asd sea
  simp only [x_search, m_search]
  rw [z1, z2]
  exact ⟨_, _, _, rfl, rfl, ⟨⟨N, L, go, Ls, hr⟩, hH, hB, hI0, hI1, rfl, hs⟩⟩
theorem s_refine (p1 : Int32) : zStep zInv (x_refine p1) (m_refine p1) := by
  rintro ⟨⟨sn, sl, sfin, swk, scols, snear, slds, qc, qf⟩, ⟨hnx, hct⟩, ⟨kn, kits, kcls⟩, ⟨k0, d0, man, mal, mafin, mawk, macols, manear, malds, nac, naf⟩, ⟨k1, d1, mbn, mbl, mbfin, mbwk, mbcols, mbnear, mblds, nbc, nbf⟩, ⟨bc, bf⟩, ⟨ord, earl, kc, kf⟩, ⟨zc, zf⟩, dst, rg⟩ ⟨⟨deeds, sd, ent⟩, ⟨st, past, img, kept, bits, bcls⟩, ⟨nr, ia, inw, asd, prs, far, met, sea⟩⟩ ⟨⟨N, L, go, Ls, hr⟩, hH, hB, hI0, hI1, hd, hs⟩
  dsimp only at hr hH hB hI0 hI1 hd hs
  subst hd
  obtain ⟨r, a1, a2, a3, a4, a5, a6, a7, b1, b2, b3, b4, b5, b6, z1, z2, hR, hH2⟩ := refine_ok hr hH p1 dst ent bc bf nr ia inw
  simp only [x_refine, m_refine]
  rw [z1, z2]
  exact ⟨_, _, _, rfl, rfl, ⟨hR, hH2, hB, hI0, hI1, rfl, hs⟩⟩
