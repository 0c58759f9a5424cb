theorem n01 : ¬ (0 : Int32) = 1 := by decide
section ZD
variable {sn sl sfin swk : Int32} {scols snear slds : zF} {qc : Int32} {qf st : zF} {N L : Nat} {go : Nat → Nat → Nat} {Ls : List Int32} {hnx hct deeds : Int32} {rg : Nat → zSV} {past : zF}
theorem columns_ok (h : zRel sn sl sfin swk scols snear slds qc qf st N L go Ls) (hh : zHist hnx hct rg deeds past) (p1 p2 sd ent : Int32) : ∃ r a b c g d2 st2 p3, fX8_columns p1 p2 hnx hct sn sl sfin swk scols snear slds qc qf rg = some (r, a, b, c, g) ∧ fX9_columns p1 p2 deeds sd ent st past = some (r, d2, st2, p3) ∧ zR9 (sn, sl, sfin, swk, c, snear, slds, qc, qf) st2 ∧ zHist a b g d2 p3 := by
  have h0 := h
  obtain ⟨⟨hN1, hN⟩, ⟨hL1, hL⟩, ⟨en, eb0⟩, ⟨el, eb1⟩, ⟨ef, hfs⟩, ew, hcols, hnear, hsym, hirr, hgo, hrc, hok, hcov, hrm⟩ := h
  obtain ⟨hnx2, hct2, rg2, deeds2, past2, eX, eM, hh2⟩ := remember_ok h0 hh sd ent
  subst en el
  unfold fX8_columns fX9_columns
  rcases zcases p1 (show N < 2 ^ 31 by omega) with ⟨i, hi, rfl⟩ | hx
  · rw [hasItem_in hi hN, isItem_in hi hN eb0]
    simp only [ob1, if_neg n10]
    rcases zcases p2 (show 256 < 2 ^ 31 by omega) with ⟨v, hv, rfl⟩ | hx
    · have e1 : fX9_in (nI v) 0 255 = some 1 := in_in (N := 256) hv (by omega)
      rw [e1, if_neg (zn0 (by omega)), show (256 : Int32) = nI 256 from rfl, if_pos (by rw [zlt (by omega) (by omega)]; omega), eX, eM]
      simp only [ob3, ob2, if_neg n10]
      rw [ogd_ok (by omega) (by omega), ogd_ok (by omega) (by omega), zcl (by omega), za4, ogd_ok (by omega) (by omega), ogd_ok (by omega) (by omega), zcl (by omega), (hcols i hi).1]
      refine ⟨_, _, _, _, _, _, _, _, rfl, rfl, ⟨N, L, go, Ls, ⟨hN1, hN⟩, ⟨hL1, hL⟩, ⟨rfl, by rw [pk_un (by omega)]; exact eb0⟩, ⟨rfl, by rw [pk_un (by omega)]; exact eb1⟩, ⟨by rw [pk_un (by omega)]; exact ef, hfs⟩, by rw [pk_un (by omega)]; exact ew, fun a ha => ?_, fun a ha => by rw [pk_un (by omega)]; exact hnear a ha, hsym, hirr, fun c a hc ha => by rw [pk_un (by omega)]; exact hgo c a hc ha, hrc, hok, hcov, fun a ha => by show upd (_) _ _ _ = _; rw [pk_un (by omega)]; exact hrm a ha⟩, hh2⟩
      by_cases hai : a = i
      · subst hai
        dsimp only
        rw [pk_us, pk_us]
        exact ⟨rfl, zsub_nI (N := 8) hv⟩
      · dsimp only
        rw [pk_un hai, pk_un (by omega)]
        exact hcols a ha
    · have e1 : fX9_in p2 0 255 = some 0 := in_out (N := 256) (by omega) (by omega) hx
      rw [e1]
      by_cases h1 : p2 < 0
      · rw [if_pos h1]
        exact ⟨_, _, _, _, _, _, _, _, rfl, rfl, ⟨N, L, go, Ls, h0⟩, hh⟩
      · rw [if_neg h1, if_neg]
        · exact ⟨_, _, _, _, _, _, _, _, rfl, rfl, ⟨N, L, go, Ls, h0⟩, hh⟩
        · have h2 := hx.resolve_left h1
          rw [Int32.le_iff_toInt_le] at h2
          rw [Int32.lt_iff_toInt_lt]
          have e3 : (256 : Int32).toInt = 256 := by decide
          have e4 : (nI 256).toInt = 256 := by decide
          omega
  · rw [hasItem_out hx, isItem_out hN1 hN hx eb0]
    exact ⟨_, _, _, _, _, _, _, _, rfl, rfl, ⟨N, L, go, Ls, h0⟩, hh⟩
theorem finals_ok (h : zRel sn sl sfin swk scols snear slds qc qf st N L go Ls) (hh : zHist hnx hct rg deeds past) (p1 sd ent : Int32) : ∃ r a b c g d2 st2 p3, fX8_finals p1 hnx hct sn sl sfin swk scols snear slds qc qf rg = some (r, a, b, c, g) ∧ fX9_finals p1 deeds sd ent st past = some (r, d2, st2, p3) ∧ zR9 (sn, sl, c, swk, scols, snear, slds, qc, qf) st2 ∧ zHist a b g d2 p3 := by
  have h0 := h
  obtain ⟨⟨hN1, hN⟩, ⟨hL1, hL⟩, ⟨en, eb0⟩, ⟨el, eb1⟩, ⟨ef, hfs⟩, ew, hcols, hnear, hsym, hirr, hgo, hrc, hok, hcov, hrm⟩ := h
  obtain ⟨hnx2, hct2, rg2, deeds2, past2, eX, eM, hh2⟩ := remember_ok h0 hh sd ent
  subst en el
  unfold fX8_finals fX9_finals
  by_cases hs : zsub N p1
  · rw [items_in hN hs, isSet_in hN hs eb0]
    simp only [ob1, if_neg n10]
    rw [eX, eM]
    simp only [ob3, ob2]
    refine ⟨_, _, _, _, _, _, _, _, rfl, by rw [← ef], ⟨N, L, go, Ls, ⟨hN1, hN⟩, ⟨hL1, hL⟩, ⟨rfl, by rw [pk_un (by omega)]; exact eb0⟩, ⟨rfl, by rw [pk_un (by omega)]; exact eb1⟩, ⟨by rw [pk_us], hs⟩, by rw [pk_un (by omega)]; exact ew, fun a ha => by rw [pk_un (by omega)]; exact hcols a ha, fun a ha => by rw [pk_un (by omega)]; exact hnear a ha, hsym, hirr, fun c a hc ha => by rw [pk_un (by omega)]; exact hgo c a hc ha, hrc, hok, hcov, fun a ha => by show upd (_) _ _ _ = _; rw [pk_un (by omega)]; exact hrm a ha⟩, hh2⟩
  · rw [items_out hN hs, isSet_out hN hs eb0]
    exact ⟨_, _, _, _, _, _, _, _, rfl, rfl, ⟨N, L, go, Ls, h0⟩, hh⟩
theorem goes_ok (h : zRel sn sl sfin swk scols snear slds qc qf st N L go Ls) (hh : zHist hnx hct rg deeds past) (p1 p2 p3 sd ent : Int32) : ∃ r a b c g d2 st2 q3, fX8_goes p1 p2 p3 hnx hct sn sl sfin swk scols snear slds qc qf rg = some (r, a, b, c, g) ∧ fX9_goes p1 p2 p3 deeds sd ent st past = some (r, d2, st2, q3) ∧ zR9 (sn, sl, sfin, swk, scols, snear, c, qc, qf) st2 ∧ zHist a b g d2 q3 := by
  have h0 := h
  obtain ⟨⟨hN1, hN⟩, ⟨hL1, hL⟩, ⟨en, eb0⟩, ⟨el, eb1⟩, ⟨ef, hfs⟩, ew, hcols, hnear, hsym, hirr, hgo, hrc, hok, hcov, hrm⟩ := h
  obtain ⟨hnx2, hct2, rg2, deeds2, past2, eX, eM, hh2⟩ := remember_ok h0 hh sd ent
  subst en el
  unfold fX8_goes fX9_goes
  rcases zcases p1 (show N < 2 ^ 31 by omega) with ⟨i, hi, rfl⟩ | hx
  · rw [hasItem_in hi hN, isItem_in hi hN eb0, eb1]
    simp only [ob1, if_neg n10]
    rcases zcases p2 (show L < 2 ^ 31 by omega) with ⟨k, hk, rfl⟩ | hx
    · rw [hasLetter_in hk hL, in_in hk (by omega)]
      simp only [if_neg n10]
      rcases zcases p3 (show N < 2 ^ 31 by omega) with ⟨j, hj, rfl⟩ | hx
      · rw [hasItem_in hj hN, isItem_in hj hN eb0]
        simp only [if_neg n10]
        rw [leads_in hi hN hk hL, eX, eM]
        simp only [ob3, ob2]
        rw [lead_in hi hj hN hk hL, zgo, ogd_ok (by omega) (by omega), zcl (by omega)]
        simp only [onm]
        rw [ogd_ok (by omega) (by omega), (hgo k i hk hi).2.2, (hgo k i hk hi).2.1]
        refine ⟨_, _, _, _, _, _, _, _, rfl, rfl, ⟨N, L, (fun c a => if c = k ∧ a = i then j else go c a), Ls, ⟨hN1, hN⟩, ⟨hL1, hL⟩, ⟨rfl, by rw [pk_un (by omega)]; exact eb0⟩, ⟨rfl, by rw [pk_un (by omega)]; exact eb1⟩, ⟨by rw [pk_un (by omega)]; exact ef, hfs⟩, by rw [pk_un (by omega)]; exact ew, fun a ha => by rw [pk_un (by omega)]; exact hcols a ha, fun a ha => by rw [pk_un (by omega)]; exact hnear a ha, hsym, hirr, fun c a hc ha => ?_, hrc, hok, hcov, fun a ha => by show upd (_) _ _ _ = _; rw [pk_un (by omega)]; exact hrm a ha⟩, hh2⟩
        by_cases hca : c = k ∧ a = i
        · obtain ⟨rfl, rfl⟩ := hca
          dsimp only
          rw [pk_us, pk_us, if_pos ⟨rfl, rfl⟩]
          exact ⟨hj, rfl, rfl⟩
        · dsimp only
          rw [if_neg hca, pk_un (by omega), pk_un (by omega)]
          exact hgo c a hc ha
      · rw [hasItem_out hx, isItem_out hN1 hN hx eb0]
        exact ⟨_, _, _, _, _, _, _, _, rfl, rfl, ⟨N, L, go, Ls, h0⟩, hh⟩
    · rw [hasLetter_out hx, in_out hL1 (by omega) hx]
      exact ⟨_, _, _, _, _, _, _, _, rfl, rfl, ⟨N, L, go, Ls, h0⟩, hh⟩
  · rw [hasItem_out hx, isItem_out hN1 hN hx eb0]
    exact ⟨_, _, _, _, _, _, _, _, rfl, rfl, ⟨N, L, go, Ls, h0⟩, hh⟩
theorem letters_ok (h : zRel sn sl sfin swk scols snear slds qc qf st N L go Ls) (hh : zHist hnx hct rg deeds past) (p1 sd ent : Int32) : ∃ r a b c1 c2 g d2 st2 q3, fX8_letters p1 hnx hct sn sl sfin swk scols snear slds qc qf rg = some (r, a, b, c1, c2, g) ∧ fX9_letters p1 deeds sd ent st past = some (r, d2, st2, q3) ∧ zR9 (sn, c1, sfin, swk, scols, snear, c2, qc, qf) st2 ∧ zHist a b g d2 q3 := by
  have h0 := h
  obtain ⟨⟨hN1, hN⟩, ⟨hL1, hL⟩, ⟨en, eb0⟩, ⟨el, eb1⟩, ⟨ef, hfs⟩, ew, hcols, hnear, hsym, hirr, hgo, hrc, hok, hcov, hrm⟩ := h
  obtain ⟨hnx2, hct2, rg2, deeds2, past2, eX, eM, hh2⟩ := remember_ok h0 hh sd ent
  subst en el
  unfold fX8_letters fX9_letters
  rcases cases1 p1 (show 3 < 10000 by omega) with ⟨l, hl1, hl, rfl⟩ | ⟨hx, e0⟩
  · have e1 : fX9_in (nI l) 1 3 = some 1 := in1_in hl1 (n := 3) hl (by omega)
    rw [e1, if_neg (by rw [show (1 : Int32) = nI 1 from rfl, zlt (by omega) (by omega)]; omega), if_pos (by rw [show (3 : Int32) = nI 3 from rfl, zle (by omega) (by omega)]; omega)]
    simp only [ob1, if_neg n10]
    rw [eX, eM]
    simp only [ob3, ob2]
    rw [takeLetters_ok hN hL hl, letM_ok hL hl eb1]
    simp only
    refine ⟨_, _, _, _, _, _, _, _, _, rfl, by rw [eb1], ⟨N, l, (fun c a => if L ≤ c then a else go c a), Ls, ⟨hN1, hN⟩, ⟨hl1, hl⟩, ⟨rfl, ?_⟩, ⟨rfl, pk_us⟩, ⟨?_, hfs⟩, ?_, fun a ha => ?_, fun a ha => ?_, hsym, hirr, fun c a hc ha => ?_, hrc, hok, hcov, fun a ha => ?_⟩, hh2⟩
    · rw [pk_un (by omega), if_neg (by omega)]
      exact eb0
    · rw [pk_un (by omega), if_neg (by omega)]
      exact ef
    · rw [pk_un (by omega), if_neg (by omega)]
      exact ew
    · rw [pk_un (by omega), if_neg (by omega)]
      exact hcols a ha
    · rw [pk_un (by omega), if_neg (by omega)]
      exact hnear a ha
    · rw [pk_un (by omega)]
      dsimp only
      by_cases hLc : L ≤ c
      · rw [if_pos hLc, if_pos (by omega), if_pos (by omega)]
        exact ⟨ha, congrArg nI (by omega), congrArg nI (by omega)⟩
      · rw [if_neg hLc, if_neg (by omega), if_neg (by omega)]
        exact hgo c a (by omega) ha
    · show upd _ _ _ _ = _
      rw [pk_un (by omega), if_neg (by omega)]
      exact hrm a ha
  · have e0 : fX9_in p1 1 3 = some 0 := e0
    rw [e0]
    rcases hx with hx | ⟨hx, hy⟩
    · rw [if_pos hx]
      exact ⟨_, _, _, _, _, _, _, _, _, rfl, rfl, ⟨N, L, go, Ls, h0⟩, hh⟩
    · rw [if_neg hx, if_neg (show ¬ p1 ≤ 3 from hy)]
      exact ⟨_, _, _, _, _, _, _, _, _, rfl, rfl, ⟨N, L, go, Ls, h0⟩, hh⟩
theorem items_ok (h : zRel sn sl sfin swk scols snear slds qc qf st N L go Ls) (hh : zHist hnx hct rg deeds past) (p1 sd ent : Int32) : ∃ r a b c1 c2 c3 c4 c5 c6 c7 c8 c9 g d2 st2 q3, fX8_items p1 hnx hct sn sl sfin swk scols snear slds qc qf rg = some (r, a, b, c1, c2, c3, c4, c5, c6, c7, c8, c9, g) ∧ fX9_items p1 deeds sd ent st past = some (r, d2, st2, q3) ∧ zR9 (c1, c2, c3, c4, c5, c6, c7, c8, c9) st2 ∧ zHist a b g d2 q3 := by
  have h0 := h
  obtain ⟨⟨hN1, hN⟩, ⟨hL1, hL⟩, ⟨en, eb0⟩, ⟨el, eb1⟩, ⟨ef, hfs⟩, ew, hcols, hnear, hsym, hirr, hgo, hrc, hok, hcov, hrm⟩ := h
  obtain ⟨hnx2, hct2, rg2, deeds2, past2, eX, eM, hh2⟩ := remember_ok h0 hh sd ent
  subst en el
  unfold fX8_items fX9_items
  rcases cases1 p1 (show 12 < 10000 by omega) with ⟨l, hl1, hl, rfl⟩ | ⟨hx, e0⟩
  · have e1 : fX9_in (nI l) 1 12 = some 1 := in1_in hl1 (n := 12) hl (by omega)
    rw [e1, if_neg (by rw [show (1 : Int32) = nI 1 from rfl, zlt (by omega) (by omega)]; omega), if_pos (by rw [show (12 : Int32) = nI 12 from rfl, zle (by omega) (by omega)]; omega)]
    simp only [ob1, if_neg n10]
    rw [eX, eM]
    simp only [ob3, ob2]
    obtain ⟨a1, a2, a3, a4, a5, a6, a7, a8, a9, st2, g1, g2, hr⟩ := start_ok hl1 hl (nI N) (nI L) sfin swk scols snear slds qc qf st deeds2 sd ent
    rw [g1, g2]
    exact ⟨_, _, _, _, _, _, _, _, _, _, _, _, _, _, _, _, rfl, by rw [eb0], ⟨_, _, _, _, hr⟩, hh2⟩
  · have e0 : fX9_in p1 1 12 = some 0 := e0
    rw [e0]
    rcases hx with hx | ⟨hx, hy⟩
    · rw [if_pos hx]
      exact ⟨_, _, _, _, _, _, _, _, _, _, _, _, _, _, _, _, rfl, rfl, ⟨N, L, go, Ls, h0⟩, hh⟩
    · rw [if_neg hx, if_neg (show ¬ p1 ≤ 12 from hy)]
      exact ⟨_, _, _, _, _, _, _, _, _, _, _, _, _, _, _, _, rfl, rfl, ⟨N, L, go, Ls, h0⟩, hh⟩
theorem flip_rel (h : zRel (nI N) sl sfin swk scols snear slds qc qf st N L go Ls) {i j : Nat} (hi : i < N) (hj : j < N) (hij : ¬ i = j) (d s e : Int32) : ∃ near2 st2, fX6_flipEdge (nI i) (nI j) (nI N) sl sfin swk snear = some near2 ∧ fX9_turnsEdge (nI i) (nI j) d s e st = some st2 ∧ zRel (nI N) sl sfin swk scols near2 slds qc qf st2 N L go Ls := by
  obtain ⟨⟨hN1, hN⟩, ⟨hL1, hL⟩, ⟨en, eb0⟩, ⟨el, eb1⟩, ⟨ef, hfs⟩, ew, hcols, hnear, hsym, hirr, hgo, hrc, hok, hcov, hrm⟩ := h
  subst el
  unfold fX6_flipEdge fX9_turnsEdge
  rw [hasItem_in hi hN, hasItem_in hj hN]
  simp only [ob1, if_neg n10]
  rw [if_neg (by rw [zeq (by omega) (by omega)]; exact hij), ogd_ok (by omega) (by omega), ogd_ok (by omega) (by omega), ogd_ok (by omega) (by omega), ogd_ok (by omega) (by omega), zcl (by omega), zcl (by omega), za16, za16, ogd_ok (by omega) (by omega), ogd_ok (by omega) (by omega), ogd_ok (by omega) (by omega), ogd_ok (by omega) (by omega), zcl (by omega), zcl (by omega)]
  have hnew : ∀ a, a < N → ∀ q, q < 32 → bt (upd (upd snear i (snear i ^^^ (1 <<< (nI j &&& 31)))) j ((upd snear i (snear i ^^^ (1 <<< (nI j &&& 31)))) j ^^^ (1 <<< (nI i &&& 31))) a) q = (bt (snear a) q ^^ ((decide (a = i) && decide (q = j)) || (decide (a = j) && decide (q = i)))) := by
    intro a ha q hq
    by_cases haj : a = j
    · subst haj
      rw [pk_us, pk_un (by omega), b_xor, zb_one (by omega) hq]
      have : ¬ a = i := fun h => hij h.symm
      simp [this]
    · rw [pk_un haj]
      by_cases hai : a = i
      · subst hai
        rw [pk_us, b_xor, zb_one (by omega) hq]
        simp [haj]
      · rw [pk_un hai]
        simp [haj, hai]
  refine ⟨_, _, rfl, rfl, ⟨hN1, hN⟩, ⟨hL1, hL⟩, ⟨rfl, by rw [pk_un (by omega), pk_un (by omega)]; exact eb0⟩, ⟨rfl, by rw [pk_un (by omega), pk_un (by omega)]; exact eb1⟩, ⟨by rw [pk_un (by omega), pk_un (by omega)]; exact ef, hfs⟩, by rw [pk_un (by omega), pk_un (by omega)]; exact ew, fun a ha => by rw [pk_un (by omega), pk_un (by omega)]; exact hcols a ha, fun a ha => ?_, fun a c ha hc => ?_, fun a ha => ?_, fun c a hc ha => by rw [pk_un (by omega), pk_un (by omega)]; exact hgo c a hc ha, hrc, hok, hcov, fun a ha => by show upd (upd _ _ _) _ _ _ = _; rw [pk_un (by omega), pk_un (by omega)]; exact hrm a ha⟩
  · refine ⟨?_, fun q hq hb => ?_⟩
    · by_cases haj : a = j
      · subst haj
        rw [pk_us, pk_us, pk_un (by omega), pk_un (by omega), (hnear a ha).1]
      · rw [pk_un haj, pk_un (show 16 + a ≠ 16 + j by omega)]
        by_cases hai : a = i
        · subst hai
          rw [pk_us, pk_us, (hnear a ha).1]
        · rw [pk_un hai, pk_un (show 16 + a ≠ 16 + i by omega)]
          exact (hnear a ha).1
    · rw [hnew a ha q hq] at hb
      cases h2 : bt (snear a) q with
      | true => exact (hnear a ha).2 q hq h2
      | false =>
        rw [h2] at hb
        simp at hb
        omega
  · rw [hnew a ha c (by omega), hnew c hc a (by omega), hsym a c ha hc]
    congr 1
    rw [Bool.or_comm]
    congr 1 <;> rw [Bool.and_comm]
  · rw [hnew a ha a (by omega), hirr a ha]
    simp
    omega
theorem edgeN_ok (h : zRel sn sl sfin swk scols snear slds qc qf st N L go Ls) (d s e : Int32) : ∃ r, fX6_edgeCount sn sl sfin swk snear = some r ∧ fX9_edgesNow d s e st = some r := by
  obtain ⟨⟨hN1, hN⟩, ⟨hL1, hL⟩, ⟨en, eb0⟩, ⟨el, eb1⟩, ⟨ef, hfs⟩, ew, hcols, hnear, hsym, hirr, hgo, hrc, hok, hcov, hrm⟩ := h
  subst en
  refine ⟨_, edgeX_ok hN sl sfin swk (fun i hi => zsub_le (hnear i hi).2 hN), ?_⟩
  rw [edgeM_ok hN eb0]
  rw [zsm_congr (f := fun i => zcnt (snear i)) (g := fun i => zcnt (st (16 + i))) N (fun i hi => by show zcnt (snear i) = zcnt (st (16 + i)); rw [(hnear i hi).1])]
theorem edge_ok (h : zRel sn sl sfin swk scols snear slds qc qf st N L go Ls) (hh : zHist hnx hct rg deeds past) (p1 p2 p3 sd ent : Int32) : ∃ r a b c g d2 st2 q3, fX8_edge p1 p2 p3 hnx hct sn sl sfin swk scols snear slds qc qf rg = some (r, a, b, c, g) ∧ fX9_edge p1 p2 p3 deeds sd ent st past = some (r, d2, st2, q3) ∧ zR9 (sn, sl, sfin, swk, scols, c, slds, qc, qf) st2 ∧ zHist a b g d2 q3 := by
  have h0 := h
  obtain ⟨⟨hN1, hN⟩, ⟨hL1, hL⟩, ⟨en, eb0⟩, ⟨el, eb1⟩, ⟨ef, hfs⟩, ew, hcols, hnear, hsym, hirr, hgo, hrc, hok, hcov, hrm⟩ := h
  obtain ⟨hnx2, hct2, rg2, deeds2, past2, eX, eM, hh2⟩ := remember_ok h0 hh sd ent
  subst en
  unfold fX8_edge fX9_edge
  rcases zcases p1 (show N < 2 ^ 31 by omega) with ⟨i, hi, rfl⟩ | hx
  · rw [hasItem_in hi hN, isItem_in hi hN eb0]
    simp only [ob1, if_neg n10]
    rcases zcases p2 (show N < 2 ^ 31 by omega) with ⟨j, hj, rfl⟩ | hx
    · rw [hasItem_in hj hN, isItem_in hj hN eb0]
      simp only [if_neg n10]
      by_cases hij : i = j
      · subst hij
        rw [if_pos rfl, if_pos rfl]
        exact ⟨_, _, _, _, _, _, _, _, rfl, rfl, ⟨N, L, go, Ls, h0⟩, hh⟩
      · have hne : ¬ nI i = nI j := by rw [zeq (by omega) (by omega)]; exact hij
        rw [if_neg hne, if_neg hne]
        have hed : fX6_isEdge (nI i) (nI j) (nI N) sl sfin swk snear = some (if bt (snear i) j = true then 1 else 0) := by
          unfold fX6_isEdge
          rw [hasItem_in hi hN]
          simp only [ob1, if_neg n10]
          rw [ogd_ok (by omega) (by omega), zcl (by omega), zb_bit _ (by omega)]
          cases bt (snear i) j
          · simp
          · simp
        obtain ⟨near2, st2, f1, f2, hr2⟩ := flip_rel h0 hi hj hij deeds2 sd ent
        obtain ⟨w1, k1, k2⟩ := edgeN_ok h0 deeds2 sd ent
        obtain ⟨w2, k3, k4⟩ := edgeN_ok hr2 deeds2 sd ent
        have hhas : fX9_has (st (16 + i)) (nI j) = some (if bt (snear i) j = true then 1 else 0) := by
          rw [has_ok _ (by omega), (hnear i hi).1]
        rcases zcases p3 (show 2 < 2 ^ 31 by omega) with ⟨v, hv, rfl⟩ | hx
        · have e1 : fX9_in (nI v) 0 1 = some 1 := in_in (N := 2) hv (by omega)
          rw [e1, eM, hed, eX]
          simp only [ob2, if_neg n10]
          rw [za16, ogd_ok (by omega) (by omega), zcl (by omega), hhas]
          simp only [ob3]
          have hv2 : v = 0 ∨ v = 1 := by omega
          rcases hv2 with rfl | rfl
          · cases hb : bt (snear i) j with
            | true =>
              simp only [hb, f1, f2, k3, k4, show nI 0 = (0 : Int32) from rfl, if_neg n10, if_neg n01, if_true, if_false, Bool.false_eq_true]
              exact ⟨_, _, _, _, _, _, _, _, rfl, rfl, ⟨N, L, go, Ls, hr2⟩, hh2⟩
            | false =>
              simp only [hb, f1, f2, k1, k2, show nI 0 = (0 : Int32) from rfl, if_neg n10, if_neg n01, if_true, if_false, Bool.false_eq_true]
              exact ⟨_, _, _, _, _, _, _, _, rfl, rfl, ⟨N, L, go, Ls, h0⟩, hh2⟩
          · cases hb : bt (snear i) j with
            | true =>
              simp only [hb, f1, f2, k1, k2, show nI 1 = (1 : Int32) from rfl, if_neg n10, if_neg n01, if_true, if_false, Bool.false_eq_true]
              exact ⟨_, _, _, _, _, _, _, _, rfl, rfl, ⟨N, L, go, Ls, h0⟩, hh2⟩
            | false =>
              simp only [hb, f1, f2, k3, k4, show nI 1 = (1 : Int32) from rfl, if_neg n10, if_neg n01, if_true, if_false, Bool.false_eq_true]
              exact ⟨_, _, _, _, _, _, _, _, rfl, rfl, ⟨N, L, go, Ls, hr2⟩, hh2⟩
        · have e1 : fX9_in p3 0 1 = some 0 := in_out (N := 2) (by omega) (by omega) hx
          have q0 : ¬ p3 = 0 := by
            rintro rfl
            exact absurd hx (by decide)
          have q1 : ¬ p3 = 1 := by
            rintro rfl
            exact absurd hx (by decide)
          rw [e1, if_neg q0, if_neg q1]
          exact ⟨_, _, _, _, _, _, _, _, rfl, rfl, ⟨N, L, go, Ls, h0⟩, hh⟩
    · rw [hasItem_out hx, isItem_out hN1 hN hx eb0]
      exact ⟨_, _, _, _, _, _, _, _, rfl, rfl, ⟨N, L, go, Ls, h0⟩, hh⟩
  · rw [hasItem_out hx, isItem_out hN1 hN hx eb0]
    exact ⟨_, _, _, _, _, _, _, _, rfl, rfl, ⟨N, L, go, Ls, h0⟩, hh⟩
theorem begin_ok (h : zRel sn sl sfin swk scols snear slds qc qf st N L go Ls) (hh : zHist hnx hct rg deeds past) (sd ent : Int32) : ∃ r a b c1 c2 c3 g d2 st2 q3, fX8_begin hnx hct sn sl sfin swk scols snear slds qc qf rg = some (r, a, b, c1, c2, c3, g) ∧ fX9_begin deeds sd ent st past = some (r, d2, st2, q3) ∧ zR9 (sn, sl, sfin, c1, scols, snear, slds, c2, c3) st2 ∧ zHist a b g d2 q3 := by
  have h0 := h
  obtain ⟨⟨hN1, hN⟩, ⟨hL1, hL⟩, ⟨en, eb0⟩, ⟨el, eb1⟩, ⟨ef, hfs⟩, ew, hcols, hnear, hsym, hirr, hgo, hrc, hok, hcov, hrm⟩ := h
  obtain ⟨hnx2, hct2, rg2, deeds2, past2, eX, eM, hh2⟩ := remember_ok h0 hh sd ent
  have hcl := clsM_ok h0 deeds2 sd ent
  subst en el
  obtain ⟨c, f, eg, hrc2⟩ := gather_ok (zall N) qc qf
  have eg : fX5_gather (((1 : Int32) <<< (nI N &&& 31)) - 1) qc qf = some (c, f) := eg
  have hlp : olp fX9_begin_s17 oFu (nI 0, st) = some (fun j => if 64 ≤ j ∧ j < 76 then 0 else st j) := by
    have e0 : st = (fun i => (fun j => if 64 ≤ j ∧ j < 64 + i then 0 else st j)) 0 := by
      funext j
      dsimp only
      rw [if_neg (by omega)]
    have key : olp fX9_begin_s17 oFu (nI 0, (fun i => (fun j => if 64 ≤ j ∧ j < 64 + i then 0 else st j)) 0) = some (fun j => if 64 ≤ j ∧ j < 76 then 0 else st j) := by
      refine zloop 12 (fun i => (fun j => if 64 ≤ j ∧ j < 64 + i then 0 else st j)) 0 (by omega) (by omega) ?_ rfl
      intro i _ hi
      unfold fX9_begin_s17 fX9_begin_b17
      dsimp only
      rw [if_neg (by rw [show (12 : Int32) = nI 12 from rfl, zle (by omega) (by omega)]; omega), za64, ogd_ok (by omega) (by omega), zcl (by omega), nI_1]
      refine congrArg (fun z => some (Sum.inl (nI (i + 1), z))) ?_
      funext j
      dsimp only [upd]
      by_cases h1 : j = 64 + i
      · rw [if_pos h1, if_pos (by omega)]
      · rw [if_neg h1]
        by_cases h2 : 64 ≤ j ∧ j < 64 + i
        · rw [if_pos h2, if_pos (by omega)]
        · rw [if_neg h2, if_neg (by omega)]
    rw [← e0] at key
    exact key
  have hlp : olp fX9_begin_s17 oFu ((0 : Int32), st) = some (fun j => if 64 ≤ j ∧ j < 76 then 0 else st j) := hlp
  unfold fX8_begin fX9_begin fX6_all
  rw [eX, eM]
  simp only [ob3, ob2, ob1]
  rw [eg, hcl, hlp]
  simp only
  refine ⟨_, _, _, _, _, _, _, _, _, _, rfl, by rw [← hrc.1], ⟨N, L, go, [zall N], ⟨hN1, hN⟩, ⟨hL1, hL⟩, ⟨rfl, ?_⟩, ⟨rfl, ?_⟩, ⟨?_, hfs⟩, ?_, fun a ha => ?_, fun a ha => ?_, hsym, hirr, fun c a hc ha => ?_, hrc2, zall_ok hN1 hN, fun i hi => ?_, zall_rowM hN (fun i hi => ?_)⟩, hh2⟩
  · rw [pk_un (by omega), if_neg (by omega)]; exact eb0
  · rw [pk_un (by omega), if_neg (by omega)]; exact eb1
  · rw [pk_un (by omega), if_neg (by omega)]; exact ef
  · rw [pk_us]
  · rw [pk_un (by omega), if_neg (by omega)]; exact hcols a ha
  · rw [pk_un (by omega), if_neg (by omega)]; exact hnear a ha
  · rw [pk_un (by omega), if_neg (by omega)]; exact hgo c a hc ha
  · rw [zall_pos hN hi]; simp
  · rw [pk_un (by omega), if_pos (by omega)]
theorem splitNow_ok (h : zRel sn sl sfin swk scols snear slds qc qf st N L go Ls) (hh : zHist hnx hct rg deeds past) {p1 : Int32} (hs : zsub N p1) (sd ent : Int32) (nr : zF) : ∃ r a b c1 c2 c3 g d2 st2 q3 n2, fX8_splitAndCount p1 hnx hct sn sl sfin swk scols snear slds qc qf rg = some (r, a, b, c1, c2, c3, g) ∧ fX9_splitsNow p1 deeds sd ent st past nr = some (r, d2, st2, q3, n2) ∧ zR9 (sn, sl, sfin, c1, scols, snear, slds, c2, c3) st2 ∧ zHist a b g d2 q3 := by
  have h0 := h
  obtain ⟨⟨hN1, hN⟩, ⟨hL1, hL⟩, ⟨en, eb0⟩, ⟨el, eb1⟩, ⟨ef, hfs⟩, ew, hcols, hnear, hsym, hirr, hgo, hrc, hok, hcov, hrm⟩ := h
  obtain ⟨hnx2, hct2, rg2, deeds2, past2, eX, eM, hh2⟩ := remember_ok h0 hh sd ent
  subst en el
  obtain ⟨c2, f2, ec, hrc2⟩ := cut_ok hN hrc hok p1
  have hu : ∀ j, j ≠ 3 → upd st 3 (st 3 + nI (zcnt p1)) j = st j := fun j hj => pk_un hj
  obtain ⟨nr2, es, hrm2⟩ := splits_ok (at_ := 64) (st := upd st 3 (st 3 + nI (zcnt p1))) hN (by omega) (by rw [hu 0 (by omega)]; exact eb0) (Ls := Ls) (fun i hi => by show upd _ _ _ _ = _; rw [hu _ (by omega)]; exact hrm i hi) hok p1 deeds2 sd ent nr
  have es : fX9_splits 64 p1 deeds2 sd ent (upd st 3 (st 3 + nI (zcnt p1))) nr = _ := es
  have hrel : zRel (nI N) (nI L) sfin (swk + nI (zcnt p1)) scols snear slds c2 f2 (fun j => if 64 ≤ j ∧ j < 64 + 12 then nr2 (j - 64) else upd st 3 (st 3 + nI (zcnt p1)) j) N L go (zspl p1 Ls) := by
    refine ⟨⟨hN1, hN⟩, ⟨hL1, hL⟩, ⟨rfl, ?_⟩, ⟨rfl, ?_⟩, ⟨?_, hfs⟩, ?_, fun a ha => ?_, fun a ha => ?_, hsym, hirr, fun c a hc ha => ?_, hrc2, zspl_ok hok, fun i hi => ?_, fun a ha => ?_⟩
    · dsimp only; rw [if_neg (by omega), hu _ (by omega)]; exact eb0
    · dsimp only; rw [if_neg (by omega), hu _ (by omega)]; exact eb1
    · dsimp only; rw [if_neg (by omega), hu _ (by omega)]; exact ef
    · dsimp only; rw [if_neg (by omega), pk_us, ew]
    · dsimp only; rw [if_neg (by omega), hu _ (by omega)]; exact hcols a ha
    · dsimp only; rw [if_neg (by omega), hu _ (by omega)]; exact hnear a ha
    · dsimp only; rw [if_neg (by omega), hu _ (by omega)]; exact hgo c a hc ha
    · intro hn
      exact hcov i hi ((zspl_none hok).mp hn)
    · dsimp only
      rw [if_pos (by omega), show 64 + a - 64 = a by omega]
      exact hrm2 a ha
  have hcl := clsM_ok hrel deeds2 sd ent
  unfold fX8_splitAndCount fX9_splitsNow
  rw [eX, eM]
  simp only [ob3, ob2, ob1]
  rw [ec, sizeOf_ok, bitCount_ok (zsub_le hs hN)]
  simp only
  rw [es]
  simp only
  rw [hcl, ← hrc2.1]
  exact ⟨_, _, _, _, _, _, _, _, _, _, _, rfl, rfl, ⟨_, _, _, _, hrel⟩, hh2⟩
theorem split_ok (h : zRel sn sl sfin swk scols snear slds qc qf st N L go Ls) (hh : zHist hnx hct rg deeds past) (p1 sd ent : Int32) (nr : zF) : ∃ r a b c1 c2 c3 g d2 st2 q3 n2, fX8_split p1 hnx hct sn sl sfin swk scols snear slds qc qf rg = some (r, a, b, c1, c2, c3, g) ∧ fX9_split p1 deeds sd ent st past nr = some (r, d2, st2, q3, n2) ∧ zR9 (sn, sl, sfin, c1, scols, snear, slds, c2, c3) st2 ∧ zHist a b g d2 q3 := by
  have hN := h.1.2
  have en := h.2.2.1.1
  have eb0 := h.2.2.1.2
  unfold fX8_split fX9_split
  by_cases hs : zsub N p1
  · obtain ⟨r, a, b, c1, c2, c3, g, d2, st2, q3, n2, e1, e2, hr, hh2⟩ := splitNow_ok h hh hs sd ent nr
    rw [e1, e2, en, items_in hN hs, isSet_in hN hs eb0]
    simp only [ob1, if_neg n10, ob7, ob5]
    exact ⟨_, _, _, _, _, _, _, _, _, _, _, rfl, rfl, by rw [← en]; exact hr, hh2⟩
  · rw [en, items_out hN hs, isSet_out hN hs eb0]
    exact ⟨_, _, _, _, _, _, _, _, _, _, _, rfl, rfl, by rw [← en]; exact ⟨N, L, go, Ls, h⟩, hh⟩
theorem by_ok (h : zRel sn sl sfin swk scols snear slds qc qf st N L go Ls) (hh : zHist hnx hct rg deeds past) (p1 p2 p3 sd ent : Int32) (nr : zF) : ∃ r a b c1 c2 c3 g d2 st2 q3 n2, fX8_by p1 p2 p3 hnx hct sn sl sfin swk scols snear slds qc qf rg = some (r, a, b, c1, c2, c3, g) ∧ fX9_by p1 p2 p3 deeds sd ent st past nr = some (r, d2, st2, q3, n2) ∧ zR9 (sn, sl, sfin, c1, scols, snear, slds, c2, c3) st2 ∧ zHist a b g d2 q3 := by
  unfold fX8_by fX9_by
  rcases asked_ok h p1 p2 p3 deeds sd ent with ⟨e1, e2, ha⟩ | ⟨r, n1, n2, e1, e2⟩
  · obtain ⟨S, e3, e4, hs⟩ := kind_ok h ha deeds sd ent
    obtain ⟨r, a, b, c1, c2, c3, g, d2, st2, q3, n2, e5, e6, hr, hh2⟩ := splitNow_ok h hh hs sd ent nr
    rw [e1, e2]
    simp only [ob1, if_true, e3, e4, e5, e6, ob7, ob5]
    exact ⟨_, _, _, _, _, _, _, _, _, _, _, rfl, rfl, hr, hh2⟩
  · rw [e1, e2]
    simp only [ob1]
    rw [if_neg n1, if_neg n2]
    exact ⟨_, _, _, _, _, _, _, _, _, _, _, rfl, rfl, ⟨N, L, go, Ls, h⟩, hh⟩
end ZD
