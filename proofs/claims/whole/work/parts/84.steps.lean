/-! ===== the invariant, and the steps ===== -/
def zInv (X : zXV) (M : zMV) : Prop := zR9 X.1 M.2.1.1 ∧ zHist X.2.1.1 X.2.1.2 X.2.2.2.2.2.2.2.2.2 M.1.1 M.2.1.2.1 ∧ zBook X.2.2.1.1 X.2.2.1.2.1 X.2.2.1.2.2 M.1.2.2 M.2.1.2.2.2.2.1 M.2.1.2.2.2.2.2 ∧ zImg X.2.2.2.1.1 X.2.2.2.1.2.1 X.2.2.2.1.2.2 (M.2.1.2.2.2.1 0) M.2.1.2.2.1 0 ∧ zImg X.2.2.2.2.1.1 X.2.2.2.2.1.2.1 X.2.2.2.2.1.2.2 (M.2.1.2.2.2.1 1) M.2.1.2.2.1 77 ∧ X.2.2.2.2.2.2.2.2.1 = M.1.2.1 ∧ ¬ X.2.2.2.2.2.2.2.2.1 < 0
theorem s_item (p1 p2 : Int32) : zStep zInv (x_item p1 p2) (m_item p1 p2) := by
  rintro ⟨⟨sn, sl, sfin, swk, scols, snear, slds, qc, qf⟩, ⟨hnx, hct⟩, ⟨kn, kits, kcls⟩, ⟨k0, d0, man, mal, mafin, mawk, macols, manear, malds, nac, naf⟩, ⟨k1, d1, mbn, mbl, mbfin, mbwk, mbcols, mbnear, mblds, nbc, nbf⟩, ⟨bc, bf⟩, ⟨ord, earl, kc, kf⟩, ⟨zc, zf⟩, dst, rg⟩ ⟨⟨deeds, sd, ent⟩, ⟨st, past, img, kept, bits, bcls⟩, ⟨nr, ia, inw, asd, prs, far, met, sea⟩⟩ ⟨⟨N, L, go, Ls, hr⟩, hH, hB, hI0, hI1, hd, hs⟩
  dsimp only at hr hH hB hI0 hI1 hd hs
  subst hd
  obtain ⟨r, e1, e2⟩ := item_ok hr p1 p2 deeds dst ent
  simp only [x_item, m_item]
  rw [e1, e2]
  exact ⟨_, _, _, rfl, rfl, ⟨⟨N, L, go, Ls, hr⟩, hH, hB, hI0, hI1, rfl, hs⟩⟩
theorem s_classAt (p1 : Int32) : zStep zInv (x_classAt p1) (m_classAt p1) := by
  rintro ⟨⟨sn, sl, sfin, swk, scols, snear, slds, qc, qf⟩, ⟨hnx, hct⟩, ⟨kn, kits, kcls⟩, ⟨k0, d0, man, mal, mafin, mawk, macols, manear, malds, nac, naf⟩, ⟨k1, d1, mbn, mbl, mbfin, mbwk, mbcols, mbnear, mblds, nbc, nbf⟩, ⟨bc, bf⟩, ⟨ord, earl, kc, kf⟩, ⟨zc, zf⟩, dst, rg⟩ ⟨⟨deeds, sd, ent⟩, ⟨st, past, img, kept, bits, bcls⟩, ⟨nr, ia, inw, asd, prs, far, met, sea⟩⟩ ⟨⟨N, L, go, Ls, hr⟩, hH, hB, hI0, hI1, hd, hs⟩
  dsimp only at hr hH hB hI0 hI1 hd hs
  subst hd
  obtain ⟨r, e1, e2⟩ := classAt_ok hr p1 deeds dst ent
  simp only [x_classAt, m_classAt]
  rw [e1, e2]
  exact ⟨_, _, _, rfl, rfl, ⟨⟨N, L, go, Ls, hr⟩, hH, hB, hI0, hI1, rfl, hs⟩⟩
theorem s_setBy (p1 p2 p3 : Int32) : zStep zInv (x_setBy p1 p2 p3) (m_setBy p1 p2 p3) := by
  rintro ⟨⟨sn, sl, sfin, swk, scols, snear, slds, qc, qf⟩, ⟨hnx, hct⟩, ⟨kn, kits, kcls⟩, ⟨k0, d0, man, mal, mafin, mawk, macols, manear, malds, nac, naf⟩, ⟨k1, d1, mbn, mbl, mbfin, mbwk, mbcols, mbnear, mblds, nbc, nbf⟩, ⟨bc, bf⟩, ⟨ord, earl, kc, kf⟩, ⟨zc, zf⟩, dst, rg⟩ ⟨⟨deeds, sd, ent⟩, ⟨st, past, img, kept, bits, bcls⟩, ⟨nr, ia, inw, asd, prs, far, met, sea⟩⟩ ⟨⟨N, L, go, Ls, hr⟩, hH, hB, hI0, hI1, hd, hs⟩
  dsimp only at hr hH hB hI0 hI1 hd hs
  subst hd
  obtain ⟨r, e1, e2⟩ := setBy_ok hr p1 p2 p3 deeds dst ent
  simp only [x_setBy, m_setBy]
  rw [e1, e2]
  exact ⟨_, _, _, rfl, rfl, ⟨⟨N, L, go, Ls, hr⟩, hH, hB, hI0, hI1, rfl, hs⟩⟩
theorem s_items (p1 : Int32) : zStep zInv (x_items p1) (m_items p1) := by
  rintro ⟨⟨sn, sl, sfin, swk, scols, snear, slds, qc, qf⟩, ⟨hnx, hct⟩, ⟨kn, kits, kcls⟩, ⟨k0, d0, man, mal, mafin, mawk, macols, manear, malds, nac, naf⟩, ⟨k1, d1, mbn, mbl, mbfin, mbwk, mbcols, mbnear, mblds, nbc, nbf⟩, ⟨bc, bf⟩, ⟨ord, earl, kc, kf⟩, ⟨zc, zf⟩, dst, rg⟩ ⟨⟨deeds, sd, ent⟩, ⟨st, past, img, kept, bits, bcls⟩, ⟨nr, ia, inw, asd, prs, far, met, sea⟩⟩ ⟨⟨N, L, go, Ls, hr⟩, hH, hB, hI0, hI1, hd, hs⟩
  dsimp only at hr hH hB hI0 hI1 hd hs
  subst hd
  obtain ⟨r, a1, a2, a3, a4, a5, a6, a7, a8, a9, a10, a11, a12, b1, b2, b3, e1, e2, hR, hH2⟩ := items_ok hr hH p1 dst ent
  simp only [x_items, m_items]
  rw [e1, e2]
  exact ⟨_, _, _, rfl, rfl, ⟨hR, hH2, hB, hI0, hI1, rfl, hs⟩⟩
theorem s_edge (p1 p2 p3 : Int32) : zStep zInv (x_edge p1 p2 p3) (m_edge p1 p2 p3) := by
  rintro ⟨⟨sn, sl, sfin, swk, scols, snear, slds, qc, qf⟩, ⟨hnx, hct⟩, ⟨kn, kits, kcls⟩, ⟨k0, d0, man, mal, mafin, mawk, macols, manear, malds, nac, naf⟩, ⟨k1, d1, mbn, mbl, mbfin, mbwk, mbcols, mbnear, mblds, nbc, nbf⟩, ⟨bc, bf⟩, ⟨ord, earl, kc, kf⟩, ⟨zc, zf⟩, dst, rg⟩ ⟨⟨deeds, sd, ent⟩, ⟨st, past, img, kept, bits, bcls⟩, ⟨nr, ia, inw, asd, prs, far, met, sea⟩⟩ ⟨⟨N, L, go, Ls, hr⟩, hH, hB, hI0, hI1, hd, hs⟩
  dsimp only at hr hH hB hI0 hI1 hd hs
  subst hd
  obtain ⟨r, a1, a2, a3, a4, b1, b2, b3, e1, e2, hR, hH2⟩ := edge_ok hr hH p1 p2 p3 dst ent
  simp only [x_edge, m_edge]
  rw [e1, e2]
  exact ⟨_, _, _, rfl, rfl, ⟨hR, hH2, hB, hI0, hI1, rfl, hs⟩⟩
theorem s_columns (p1 p2 : Int32) : zStep zInv (x_columns p1 p2) (m_columns p1 p2) := by
  rintro ⟨⟨sn, sl, sfin, swk, scols, snear, slds, qc, qf⟩, ⟨hnx, hct⟩, ⟨kn, kits, kcls⟩, ⟨k0, d0, man, mal, mafin, mawk, macols, manear, malds, nac, naf⟩, ⟨k1, d1, mbn, mbl, mbfin, mbwk, mbcols, mbnear, mblds, nbc, nbf⟩, ⟨bc, bf⟩, ⟨ord, earl, kc, kf⟩, ⟨zc, zf⟩, dst, rg⟩ ⟨⟨deeds, sd, ent⟩, ⟨st, past, img, kept, bits, bcls⟩, ⟨nr, ia, inw, asd, prs, far, met, sea⟩⟩ ⟨⟨N, L, go, Ls, hr⟩, hH, hB, hI0, hI1, hd, hs⟩
  dsimp only at hr hH hB hI0 hI1 hd hs
  subst hd
  obtain ⟨r, a1, a2, a3, a4, b1, b2, b3, e1, e2, hR, hH2⟩ := columns_ok hr hH p1 p2 dst ent
  simp only [x_columns, m_columns]
  rw [e1, e2]
  exact ⟨_, _, _, rfl, rfl, ⟨hR, hH2, hB, hI0, hI1, rfl, hs⟩⟩
theorem s_letters (p1 : Int32) : zStep zInv (x_letters p1) (m_letters p1) := by
  rintro ⟨⟨sn, sl, sfin, swk, scols, snear, slds, qc, qf⟩, ⟨hnx, hct⟩, ⟨kn, kits, kcls⟩, ⟨k0, d0, man, mal, mafin, mawk, macols, manear, malds, nac, naf⟩, ⟨k1, d1, mbn, mbl, mbfin, mbwk, mbcols, mbnear, mblds, nbc, nbf⟩, ⟨bc, bf⟩, ⟨ord, earl, kc, kf⟩, ⟨zc, zf⟩, dst, rg⟩ ⟨⟨deeds, sd, ent⟩, ⟨st, past, img, kept, bits, bcls⟩, ⟨nr, ia, inw, asd, prs, far, met, sea⟩⟩ ⟨⟨N, L, go, Ls, hr⟩, hH, hB, hI0, hI1, hd, hs⟩
  dsimp only at hr hH hB hI0 hI1 hd hs
  subst hd
  obtain ⟨r, a1, a2, a3, a4, a5, b1, b2, b3, e1, e2, hR, hH2⟩ := letters_ok hr hH p1 dst ent
  simp only [x_letters, m_letters]
  rw [e1, e2]
  exact ⟨_, _, _, rfl, rfl, ⟨hR, hH2, hB, hI0, hI1, rfl, hs⟩⟩
theorem s_goes (p1 p2 p3 : Int32) : zStep zInv (x_goes p1 p2 p3) (m_goes p1 p2 p3) := by
  rintro ⟨⟨sn, sl, sfin, swk, scols, snear, slds, qc, qf⟩, ⟨hnx, hct⟩, ⟨kn, kits, kcls⟩, ⟨k0, d0, man, mal, mafin, mawk, macols, manear, malds, nac, naf⟩, ⟨k1, d1, mbn, mbl, mbfin, mbwk, mbcols, mbnear, mblds, nbc, nbf⟩, ⟨bc, bf⟩, ⟨ord, earl, kc, kf⟩, ⟨zc, zf⟩, dst, rg⟩ ⟨⟨deeds, sd, ent⟩, ⟨st, past, img, kept, bits, bcls⟩, ⟨nr, ia, inw, asd, prs, far, met, sea⟩⟩ ⟨⟨N, L, go, Ls, hr⟩, hH, hB, hI0, hI1, hd, hs⟩
  dsimp only at hr hH hB hI0 hI1 hd hs
  subst hd
  obtain ⟨r, a1, a2, a3, a4, b1, b2, b3, e1, e2, hR, hH2⟩ := goes_ok hr hH p1 p2 p3 dst ent
  simp only [x_goes, m_goes]
  rw [e1, e2]
  exact ⟨_, _, _, rfl, rfl, ⟨hR, hH2, hB, hI0, hI1, rfl, hs⟩⟩
theorem s_finals (p1 : Int32) : zStep zInv (x_finals p1) (m_finals p1) := by
  rintro ⟨⟨sn, sl, sfin, swk, scols, snear, slds, qc, qf⟩, ⟨hnx, hct⟩, ⟨kn, kits, kcls⟩, ⟨k0, d0, man, mal, mafin, mawk, macols, manear, malds, nac, naf⟩, ⟨k1, d1, mbn, mbl, mbfin, mbwk, mbcols, mbnear, mblds, nbc, nbf⟩, ⟨bc, bf⟩, ⟨ord, earl, kc, kf⟩, ⟨zc, zf⟩, dst, rg⟩ ⟨⟨deeds, sd, ent⟩, ⟨st, past, img, kept, bits, bcls⟩, ⟨nr, ia, inw, asd, prs, far, met, sea⟩⟩ ⟨⟨N, L, go, Ls, hr⟩, hH, hB, hI0, hI1, hd, hs⟩
  dsimp only at hr hH hB hI0 hI1 hd hs
  subst hd
  obtain ⟨r, a1, a2, a3, a4, b1, b2, b3, e1, e2, hR, hH2⟩ := finals_ok hr hH p1 dst ent
  simp only [x_finals, m_finals]
  rw [e1, e2]
  exact ⟨_, _, _, rfl, rfl, ⟨hR, hH2, hB, hI0, hI1, rfl, hs⟩⟩
theorem s_begin : zStep zInv (x_begin ) (m_begin ) := by
  rintro ⟨⟨sn, sl, sfin, swk, scols, snear, slds, qc, qf⟩, ⟨hnx, hct⟩, ⟨kn, kits, kcls⟩, ⟨k0, d0, man, mal, mafin, mawk, macols, manear, malds, nac, naf⟩, ⟨k1, d1, mbn, mbl, mbfin, mbwk, mbcols, mbnear, mblds, nbc, nbf⟩, ⟨bc, bf⟩, ⟨ord, earl, kc, kf⟩, ⟨zc, zf⟩, dst, rg⟩ ⟨⟨deeds, sd, ent⟩, ⟨st, past, img, kept, bits, bcls⟩, ⟨nr, ia, inw, asd, prs, far, met, sea⟩⟩ ⟨⟨N, L, go, Ls, hr⟩, hH, hB, hI0, hI1, hd, hs⟩
  dsimp only at hr hH hB hI0 hI1 hd hs
  subst hd
  obtain ⟨r, a1, a2, a3, a4, a5, a6, b1, b2, b3, e1, e2, hR, hH2⟩ := begin_ok hr hH dst ent
  simp only [x_begin, m_begin]
  rw [e1, e2]
  exact ⟨_, _, _, rfl, rfl, ⟨hR, hH2, hB, hI0, hI1, rfl, hs⟩⟩
theorem s_split (p1 : Int32) : zStep zInv (x_split p1) (m_split p1) := by
  rintro ⟨⟨sn, sl, sfin, swk, scols, snear, slds, qc, qf⟩, ⟨hnx, hct⟩, ⟨kn, kits, kcls⟩, ⟨k0, d0, man, mal, mafin, mawk, macols, manear, malds, nac, naf⟩, ⟨k1, d1, mbn, mbl, mbfin, mbwk, mbcols, mbnear, mblds, nbc, nbf⟩, ⟨bc, bf⟩, ⟨ord, earl, kc, kf⟩, ⟨zc, zf⟩, dst, rg⟩ ⟨⟨deeds, sd, ent⟩, ⟨st, past, img, kept, bits, bcls⟩, ⟨nr, ia, inw, asd, prs, far, met, sea⟩⟩ ⟨⟨N, L, go, Ls, hr⟩, hH, hB, hI0, hI1, hd, hs⟩
  dsimp only at hr hH hB hI0 hI1 hd hs
  subst hd
  obtain ⟨r, a1, a2, a3, a4, a5, a6, b1, b2, b3, b4, e1, e2, hR, hH2⟩ := split_ok hr hH p1 dst ent nr
  simp only [x_split, m_split]
  rw [e1, e2]
  exact ⟨_, _, _, rfl, rfl, ⟨hR, hH2, hB, hI0, hI1, rfl, hs⟩⟩
theorem s_by (p1 p2 p3 : Int32) : zStep zInv (x_by p1 p2 p3) (m_by p1 p2 p3) := by
  rintro ⟨⟨sn, sl, sfin, swk, scols, snear, slds, qc, qf⟩, ⟨hnx, hct⟩, ⟨kn, kits, kcls⟩, ⟨k0, d0, man, mal, mafin, mawk, macols, manear, malds, nac, naf⟩, ⟨k1, d1, mbn, mbl, mbfin, mbwk, mbcols, mbnear, mblds, nbc, nbf⟩, ⟨bc, bf⟩, ⟨ord, earl, kc, kf⟩, ⟨zc, zf⟩, dst, rg⟩ ⟨⟨deeds, sd, ent⟩, ⟨st, past, img, kept, bits, bcls⟩, ⟨nr, ia, inw, asd, prs, far, met, sea⟩⟩ ⟨⟨N, L, go, Ls, hr⟩, hH, hB, hI0, hI1, hd, hs⟩
  dsimp only at hr hH hB hI0 hI1 hd hs
  subst hd
  obtain ⟨r, a1, a2, a3, a4, a5, a6, b1, b2, b3, b4, e1, e2, hR, hH2⟩ := by_ok hr hH p1 p2 p3 dst ent nr
  simp only [x_by, m_by]
  rw [e1, e2]
  exact ⟨_, _, _, rfl, rfl, ⟨hR, hH2, hB, hI0, hI1, rfl, hs⟩⟩
theorem s_join (p1 : Int32) : zStep zInv (x_join p1) (m_join p1) := by
  rintro ⟨⟨sn, sl, sfin, swk, scols, snear, slds, qc, qf⟩, ⟨hnx, hct⟩, ⟨kn, kits, kcls⟩, ⟨k0, d0, man, mal, mafin, mawk, macols, manear, malds, nac, naf⟩, ⟨k1, d1, mbn, mbl, mbfin, mbwk, mbcols, mbnear, mblds, nbc, nbf⟩, ⟨bc, bf⟩, ⟨ord, earl, kc, kf⟩, ⟨zc, zf⟩, dst, rg⟩ ⟨⟨deeds, sd, ent⟩, ⟨st, past, img, kept, bits, bcls⟩, ⟨nr, ia, inw, asd, prs, far, met, sea⟩⟩ ⟨⟨N, L, go, Ls, hr⟩, hH, hB, hI0, hI1, hd, hs⟩
  dsimp only at hr hH hB hI0 hI1 hd hs
  subst hd
  obtain ⟨r, a1, a2, a3, a4, a5, b1, b2, b3, e1, e2, hR, hH2⟩ := join_ok hr hH p1 dst ent
  simp only [x_join, m_join]
  rw [e1, e2]
  exact ⟨_, _, _, rfl, rfl, ⟨hR, hH2, hB, hI0, hI1, rfl, hs⟩⟩
theorem s_arrange : zStep zInv (x_arrange ) (m_arrange ) := by
  rintro ⟨⟨sn, sl, sfin, swk, scols, snear, slds, qc, qf⟩, ⟨hnx, hct⟩, ⟨kn, kits, kcls⟩, ⟨k0, d0, man, mal, mafin, mawk, macols, manear, malds, nac, naf⟩, ⟨k1, d1, mbn, mbl, mbfin, mbwk, mbcols, mbnear, mblds, nbc, nbf⟩, ⟨bc, bf⟩, ⟨ord, earl, kc, kf⟩, ⟨zc, zf⟩, dst, rg⟩ ⟨⟨deeds, sd, ent⟩, ⟨st, past, img, kept, bits, bcls⟩, ⟨nr, ia, inw, asd, prs, far, met, sea⟩⟩ ⟨⟨N, L, go, Ls, hr⟩, hH, hB, hI0, hI1, hd, hs⟩
  dsimp only at hr hH hB hI0 hI1 hd hs
  subst hd
  obtain ⟨r, a1, a2, a3, a4, a5, a6, b1, b2, b3, b4, b5, e1, e2, hR, hH2⟩ := arrange_ok hr hH dst ent zc zf nr asd
  simp only [x_arrange, m_arrange]
  rw [e1, e2]
  exact ⟨_, _, _, rfl, rfl, ⟨hR, hH2, hB, hI0, hI1, rfl, hs⟩⟩
theorem s_drift (p1 : Int32) : zStep zInv (x_drift p1) (m_drift p1) := by
  rintro ⟨⟨sn, sl, sfin, swk, scols, snear, slds, qc, qf⟩, ⟨hnx, hct⟩, ⟨kn, kits, kcls⟩, ⟨k0, d0, man, mal, mafin, mawk, macols, manear, malds, nac, naf⟩, ⟨k1, d1, mbn, mbl, mbfin, mbwk, mbcols, mbnear, mblds, nbc, nbf⟩, ⟨bc, bf⟩, ⟨ord, earl, kc, kf⟩, ⟨zc, zf⟩, dst, rg⟩ ⟨⟨deeds, sd, ent⟩, ⟨st, past, img, kept, bits, bcls⟩, ⟨nr, ia, inw, asd, prs, far, met, sea⟩⟩ ⟨⟨N, L, go, Ls, hr⟩, hH, hB, hI0, hI1, hd, hs⟩
  dsimp only at hr hH hB hI0 hI1 hd hs
  subst hd
  obtain ⟨r, a1, a2, a3, a4, a5, a6, t, a8, b1, b3, b4, e1, e2, ht, hR, hH2⟩ := drift_ok hr hH hs p1 ent
  simp only [x_drift, m_drift]
  rw [e1, e2]
  exact ⟨_, _, _, rfl, rfl, ⟨hR, hH2, hB, hI0, hI1, rfl, ht⟩⟩
theorem s_undo (p1 : Int32) : zStep zInv (x_undo p1) (m_undo p1) := by
  rintro ⟨⟨sn, sl, sfin, swk, scols, snear, slds, qc, qf⟩, ⟨hnx, hct⟩, ⟨kn, kits, kcls⟩, ⟨k0, d0, man, mal, mafin, mawk, macols, manear, malds, nac, naf⟩, ⟨k1, d1, mbn, mbl, mbfin, mbwk, mbcols, mbnear, mblds, nbc, nbf⟩, ⟨bc, bf⟩, ⟨ord, earl, kc, kf⟩, ⟨zc, zf⟩, dst, rg⟩ ⟨⟨deeds, sd, ent⟩, ⟨st, past, img, kept, bits, bcls⟩, ⟨nr, ia, inw, asd, prs, far, met, sea⟩⟩ ⟨⟨N, L, go, Ls, hr⟩, hH, hB, hI0, hI1, hd, hs⟩
  dsimp only at hr hH hB hI0 hI1 hd hs
  subst hd
  obtain ⟨r, a1, a2, a3, a4, a5, a6, a7, a8, a9, a10, a11, b1, b2, e1, e2, hR, hH2⟩ := undo_ok hr hH p1 dst ent
  simp only [x_undo, m_undo]
  rw [e1, e2]
  exact ⟨_, _, _, rfl, rfl, ⟨hR, hH2, hB, hI0, hI1, rfl, hs⟩⟩
theorem s_write (p1 p2 : Int32) : zStep zInv (x_write p1 p2) (m_write p1 p2) := by
  rintro ⟨⟨sn, sl, sfin, swk, scols, snear, slds, qc, qf⟩, ⟨hnx, hct⟩, ⟨kn, kits, kcls⟩, ⟨k0, d0, man, mal, mafin, mawk, macols, manear, malds, nac, naf⟩, ⟨k1, d1, mbn, mbl, mbfin, mbwk, mbcols, mbnear, mblds, nbc, nbf⟩, ⟨bc, bf⟩, ⟨ord, earl, kc, kf⟩, ⟨zc, zf⟩, dst, rg⟩ ⟨⟨deeds, sd, ent⟩, ⟨st, past, img, kept, bits, bcls⟩, ⟨nr, ia, inw, asd, prs, far, met, sea⟩⟩ ⟨⟨N, L, go, Ls, hr⟩, hH, hB, hI0, hI1, hd, hs⟩
  dsimp only at hr hH hB hI0 hI1 hd hs
  subst hd
  obtain ⟨r, a1, a2, a3, b1, b2, b3, e1, e2, hB2⟩ := write_ok hr hB p1 p2 deeds dst
  simp only [x_write, m_write]
  rw [e1, e2]
  exact ⟨_, _, _, rfl, rfl, ⟨⟨N, L, go, Ls, hr⟩, hH, hB2, hI0, hI1, rfl, hs⟩⟩
theorem s_tear : zStep zInv x_tear m_tear := by
  rintro ⟨⟨sn, sl, sfin, swk, scols, snear, slds, qc, qf⟩, ⟨hnx, hct⟩, ⟨kn, kits, kcls⟩, ⟨k0, d0, man, mal, mafin, mawk, macols, manear, malds, nac, naf⟩, ⟨k1, d1, mbn, mbl, mbfin, mbwk, mbcols, mbnear, mblds, nbc, nbf⟩, ⟨bc, bf⟩, ⟨ord, earl, kc, kf⟩, ⟨zc, zf⟩, dst, rg⟩ ⟨⟨deeds, sd, ent⟩, ⟨st, past, img, kept, bits, bcls⟩, ⟨nr, ia, inw, asd, prs, far, met, sea⟩⟩ ⟨⟨N, L, go, Ls, hr⟩, hH, hB, hI0, hI1, hd, hs⟩
  dsimp only at hr hH hB hI0 hI1 hd hs
  subst hd
  obtain ⟨n, hn, rfl, rfl, hk⟩ := hB
  refine ⟨_, _, _, rfl, rfl, ⟨⟨N, L, go, Ls, hr⟩, hH, ⟨0, by omega, rfl, rfl, fun k hk => by omega⟩, hI0, hI1, rfl, hs⟩⟩
theorem s_seed (p1 : Int32) : zStep zInv (x_seed p1) (m_seed p1) := by
  rintro ⟨⟨sn, sl, sfin, swk, scols, snear, slds, qc, qf⟩, ⟨hnx, hct⟩, ⟨kn, kits, kcls⟩, ⟨k0, d0, man, mal, mafin, mawk, macols, manear, malds, nac, naf⟩, ⟨k1, d1, mbn, mbl, mbfin, mbwk, mbcols, mbnear, mblds, nbc, nbf⟩, ⟨bc, bf⟩, ⟨ord, earl, kc, kf⟩, ⟨zc, zf⟩, dst, rg⟩ ⟨⟨deeds, sd, ent⟩, ⟨st, past, img, kept, bits, bcls⟩, ⟨nr, ia, inw, asd, prs, far, met, sea⟩⟩ ⟨⟨N, L, go, Ls, hr⟩, hH, hB, hI0, hI1, hd, hs⟩
  dsimp only at hr hH hB hI0 hI1 hd hs
  subst hd
  simp only [x_seed, m_seed]
  unfold fX8_seed fX9_seed
  by_cases h0 : (0 : Int32) ≤ p1
  · rw [if_pos h0]
    refine ⟨_, _, _, rfl, rfl, ⟨⟨N, L, go, Ls, hr⟩, hH, hB, hI0, hI1, rfl, ?_⟩⟩
    rw [Int32.le_iff_toInt_le] at h0
    show ¬ p1 < 0
    rw [Int32.lt_iff_toInt_lt]
    omega
  · rw [if_neg h0]
    exact ⟨_, _, _, rfl, rfl, ⟨⟨N, L, go, Ls, hr⟩, hH, hB, hI0, hI1, rfl, hs⟩⟩
theorem zHist_0 {hnx hct : Int32} {rg : Nat → zSV} {deeds : Int32} {past : zF} (h : zHist hnx hct rg deeds past) : zHist hnx 0 rg 0 past := by
  obtain ⟨hp, d, h1, h2, e1, -, -, -⟩ := h
  exact ⟨hp, 0, h1, by omega, e1, rfl, rfl, fun k hk => by omega⟩
theorem s_keep (p1 : Int32) : zStep zInv (x_keep p1) (m_keep p1) := by
  rintro ⟨⟨sn, sl, sfin, swk, scols, snear, slds, qc, qf⟩, ⟨hnx, hct⟩, ⟨kn, kits, kcls⟩, ⟨k0, d0, man, mal, mafin, mawk, macols, manear, malds, nac, naf⟩, ⟨k1, d1, mbn, mbl, mbfin, mbwk, mbcols, mbnear, mblds, nbc, nbf⟩, ⟨bc, bf⟩, ⟨ord, earl, kc, kf⟩, ⟨zc, zf⟩, dst, rg⟩ ⟨⟨deeds, sd, ent⟩, ⟨st, past, img, kept, bits, bcls⟩, ⟨nr, ia, inw, asd, prs, far, met, sea⟩⟩ ⟨⟨N, L, go, Ls, hr⟩, hH, hB, hI0, hI1, hd, hs⟩
  dsimp only at hr hH hB hI0 hI1 hd hs
  subst hd
  rcases zcases p1 (show 2 < 2 ^ 31 by omega) with ⟨v, hv, rfl⟩ | hx
  · have hv2 : v = 0 ∨ v = 1 := by omega
    rcases hv2 with rfl | rfl
    · have e2 := keepM_ok (p := 0) (by omega) deeds dst ent st img kept
      obtain ⟨a1, a2, a3, a4, a5, a6, a7, a8, a9, ec, hr2⟩ := copy9_ok hr man mal mafin mawk macols manear malds nac naf (b2 := fun j => (upd (fun j => if 77 * 0 ≤ j ∧ j < 77 * 0 + 76 then st (0 + (j - 77 * 0)) else img j) (77 * 0 + 76) dst) (0 + j)) (fun j hj => by rw [pk_un (by omega), if_pos (by omega)]; exact congrArg st (by omega))
      unfold x_keep
      rw [if_pos (show nI 0 = (0 : Int32) from rfl)]
      simp only [x_keep0, m_keep]
      unfold fX8_keep_0
      rw [if_neg (show ¬ (0 : Int32) < 0 by decide), if_pos (show (0 : Int32) < 2 by decide), ec, ob9_some, e2]
      refine ⟨_, _, _, rfl, rfl, ⟨N, L, go, Ls, hr⟩, zHist_0 hH, hB, ?_, ?_, rfl, hs⟩
      · exact Or.inr ⟨rfl, rfl, rfl, hs, ⟨_, _, _, _, hr2⟩⟩
      · refine zImg_congr hI1 (fun j hj => ?_)
        dsimp only
        rw [pk_un (by omega), if_neg (by omega)]
    · have e2 := keepM_ok (p := 1) (by omega) deeds dst ent st img kept
      obtain ⟨a1, a2, a3, a4, a5, a6, a7, a8, a9, ec, hr2⟩ := copy9_ok hr mbn mbl mbfin mbwk mbcols mbnear mblds nbc nbf (b2 := fun j => (upd (fun j => if 77 * 1 ≤ j ∧ j < 77 * 1 + 76 then st (0 + (j - 77 * 1)) else img j) (77 * 1 + 76) dst) (77 + j)) (fun j hj => by rw [pk_un (by omega), if_pos (by omega)]; exact congrArg st (by omega))
      unfold x_keep
      rw [if_neg (show ¬ nI 1 = (0 : Int32) by decide), if_pos (show nI 1 = (1 : Int32) from rfl)]
      simp only [x_keep1, m_keep]
      unfold fX8_keep_1
      rw [if_neg (show ¬ (1 : Int32) < 0 by decide), if_pos (show (1 : Int32) < 2 by decide), ec, ob9_some, e2]
      refine ⟨_, _, _, rfl, rfl, ⟨N, L, go, Ls, hr⟩, zHist_0 hH, hB, ?_, ?_, rfl, hs⟩
      · refine zImg_congr hI0 (fun j hj => ?_)
        dsimp only
        rw [pk_un (by omega), if_neg (by omega)]
      · exact Or.inr ⟨rfl, rfl, rfl, hs, ⟨_, _, _, _, hr2⟩⟩
  · have n0 : ¬ p1 = 0 := by
      rintro rfl
      exact absurd hx (by decide)
    have n1 : ¬ p1 = 1 := by
      rintro rfl
      exact absurd hx (by decide)
    have ei : fX9_in p1 0 1 = some 0 := in_out (N := 2) (by omega) (by omega) hx
    have e1 : fX8_keep_x p1 = some (-1000000001) := by
      unfold fX8_keep_x
      by_cases h1 : p1 < 0
      · rw [if_pos h1]
      · rw [if_neg h1, if_neg]
        have h2 := hx.resolve_left h1
        rw [Int32.le_iff_toInt_le] at h2
        rw [Int32.lt_iff_toInt_lt]
        have a1 : (nI 2).toInt = (2 : Int32).toInt := by decide
        omega
    have e2 : fX9_keep p1 deeds dst ent st img kept = some (-1000000001, deeds, img, kept) := by
      unfold fX9_keep
      rw [ei, ob1_some, if_pos rfl]
    unfold x_keep
    rw [if_neg n0, if_neg n1]
    simp only [x_keepx, m_keep]
    rw [e1, e2]
    exact ⟨_, _, _, rfl, rfl, ⟨⟨N, L, go, Ls, hr⟩, hH, hB, hI0, hI1, rfl, hs⟩⟩
theorem s_goBack (p1 : Int32) : zStep zInv (x_goBack p1) (m_goBack p1) := by
  rintro ⟨⟨sn, sl, sfin, swk, scols, snear, slds, qc, qf⟩, ⟨hnx, hct⟩, ⟨kn, kits, kcls⟩, ⟨k0, d0, man, mal, mafin, mawk, macols, manear, malds, nac, naf⟩, ⟨k1, d1, mbn, mbl, mbfin, mbwk, mbcols, mbnear, mblds, nbc, nbf⟩, ⟨bc, bf⟩, ⟨ord, earl, kc, kf⟩, ⟨zc, zf⟩, dst, rg⟩ ⟨⟨deeds, sd, ent⟩, ⟨st, past, img, kept, bits, bcls⟩, ⟨nr, ia, inw, asd, prs, far, met, sea⟩⟩ ⟨⟨N, L, go, Ls, hr⟩, hH, hB, hI0, hI1, hd, hs⟩
  dsimp only at hr hH hB hI0 hI1 hd hs
  subst hd
  rcases zcases p1 (show 2 < 2 ^ 31 by omega) with ⟨v, hv, rfl⟩ | hx
  · have hv2 : v = 0 ∨ v = 1 := by omega
    rcases hv2 with rfl | rfl
    · have hI := hI0
      rcases hI with ⟨hk, hkp⟩ | ⟨hk, hkp, hdd, hd0, ⟨N2, L2, go2, Ls2, hr2⟩⟩
      · have e2 := backM_no (p := 0) (by omega) deeds dst ent st img kept hkp
        unfold x_goBack
        rw [if_pos (show nI 0 = (0 : Int32) from rfl)]
        simp only [x_goBack0, m_goBack]
        unfold fX8_goBack_0
        rw [if_neg (show ¬ (0 : Int32) < 0 by decide), if_pos (show (0 : Int32) < 2 by decide), if_pos hk, e2]
        exact ⟨_, _, _, rfl, rfl, ⟨⟨N, L, go, Ls, hr⟩, hH, hB, hI0, hI1, rfl, hs⟩⟩
      · have e2 := backM_ok (p := 0) (by omega) deeds dst ent st img kept (by rw [hkp]; decide)
        obtain ⟨a1, a2, a3, a4, a5, a6, a7, a8, a9, ec, hr3⟩ := copy9_ok hr2 sn sl sfin swk scols snear slds qc qf (b2 := fun j => if 0 ≤ j ∧ j < 0 + 76 then img (77 * 0 + (j - 0)) else st j) (fun j hj => by rw [if_pos (by omega)]; exact congrArg img (by omega))
        unfold x_goBack
        rw [if_pos (show nI 0 = (0 : Int32) from rfl)]
        simp only [x_goBack0, m_goBack]
        unfold fX8_goBack_0
        rw [if_neg (show ¬ (0 : Int32) < 0 by decide), if_pos (show (0 : Int32) < 2 by decide), if_neg (by rw [hk]; decide), ec, ob9_some, e2]
        exact ⟨_, _, _, rfl, rfl, ⟨_, _, _, _, hr3⟩, zHist_0 hH, hB, hI0, hI1, hdd, hd0⟩
    · have hI := hI1
      rcases hI with ⟨hk, hkp⟩ | ⟨hk, hkp, hdd, hd0, ⟨N2, L2, go2, Ls2, hr2⟩⟩
      · have e2 := backM_no (p := 1) (by omega) deeds dst ent st img kept hkp
        unfold x_goBack
        rw [if_neg (show ¬ nI 1 = (0 : Int32) by decide), if_pos (show nI 1 = (1 : Int32) from rfl)]
        simp only [x_goBack1, m_goBack]
        unfold fX8_goBack_1
        rw [if_neg (show ¬ (1 : Int32) < 0 by decide), if_pos (show (1 : Int32) < 2 by decide), if_pos hk, e2]
        exact ⟨_, _, _, rfl, rfl, ⟨⟨N, L, go, Ls, hr⟩, hH, hB, hI0, hI1, rfl, hs⟩⟩
      · have e2 := backM_ok (p := 1) (by omega) deeds dst ent st img kept (by rw [hkp]; decide)
        obtain ⟨a1, a2, a3, a4, a5, a6, a7, a8, a9, ec, hr3⟩ := copy9_ok hr2 sn sl sfin swk scols snear slds qc qf (b2 := fun j => if 0 ≤ j ∧ j < 0 + 76 then img (77 * 1 + (j - 0)) else st j) (fun j hj => by rw [if_pos (by omega)]; exact congrArg img (by omega))
        unfold x_goBack
        rw [if_neg (show ¬ nI 1 = (0 : Int32) by decide), if_pos (show nI 1 = (1 : Int32) from rfl)]
        simp only [x_goBack1, m_goBack]
        unfold fX8_goBack_1
        rw [if_neg (show ¬ (1 : Int32) < 0 by decide), if_pos (show (1 : Int32) < 2 by decide), if_neg (by rw [hk]; decide), ec, ob9_some, e2]
        exact ⟨_, _, _, rfl, rfl, ⟨_, _, _, _, hr3⟩, zHist_0 hH, hB, hI0, hI1, hdd, hd0⟩
  · have n0 : ¬ p1 = 0 := by
      rintro rfl
      exact absurd hx (by decide)
    have n1 : ¬ p1 = 1 := by
      rintro rfl
      exact absurd hx (by decide)
    have ei : fX9_in p1 0 1 = some 0 := in_out (N := 2) (by omega) (by omega) hx
    have e1 : fX8_goBack_x p1 = some (-1000000001) := by
      unfold fX8_goBack_x
      by_cases h1 : p1 < 0
      · rw [if_pos h1]
      · rw [if_neg h1, if_neg]
        have h2 := hx.resolve_left h1
        rw [Int32.le_iff_toInt_le] at h2
        rw [Int32.lt_iff_toInt_lt]
        have a1 : (nI 2).toInt = (2 : Int32).toInt := by decide
        omega
    have e2 : fX9_goBack p1 deeds dst ent st img kept = some (-1000000001, deeds, dst, st) := by
      unfold fX9_goBack
      rw [ei, ob1_some, if_pos rfl]
    unfold x_goBack
    rw [if_neg n0, if_neg n1]
    simp only [x_goBackx, m_goBack]
    rw [e1, e2]
    exact ⟨_, _, _, rfl, rfl, ⟨⟨N, L, go, Ls, hr⟩, hH, hB, hI0, hI1, rfl, hs⟩⟩
