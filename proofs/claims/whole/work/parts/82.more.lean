theorem floor_ok : ∀ h, h < 16 → ∀ n, n < 17 → fJ9_floorMod_7cf53 (nI h - nI n) 16 = some (nI ((h + 16 - n) % 16)) := by decide +kernel
theorem zof {x : Int32} (h : ¬ x < 0) : ∃ k, k < 2 ^ 31 ∧ x = nI k := by
  refine ⟨x.toInt.toNat, ?_, ?_⟩
  · have := Int32.toInt_lt x
    rw [Int32.lt_iff_toInt_lt] at h
    have e0 : (0 : Int32).toInt = 0 := by decide
    omega
  · have h1 := Int32.toInt_lt x
    rw [Int32.lt_iff_toInt_lt] at h
    have e0 : (0 : Int32).toInt = 0 := by decide
    apply Int32.toInt_inj.mp
    rw [nI_toInt (by omega)]
    omega
theorem zl64 {S : Nat} (h : S < 2 ^ 31) : (nI S).toInt64 = Int64.ofNat S := by
  apply Int64.toInt_inj.mp
  rw [Int32.toInt_toInt64, nI_toInt h, Int64.toInt_ofNat_of_lt (by omega)]
theorem zland (X : Nat) (h : X < 2 ^ 63) : (Int64.ofNat X &&& (2147483647 : Int64)) = Int64.ofNat (X % 2147483648) := by
  apply Int64.toBitVec_inj.mp
  rw [Int64.toBitVec_and]
  apply BitVec.eq_of_toNat_eq
  rw [BitVec.toNat_and]
  show (BitVec.ofNat 64 X).toNat &&& (2147483647 : Int64).toBitVec.toNat = (BitVec.ofNat 64 (X % 2147483648)).toNat
  rw [show (2147483647 : Int64).toBitVec.toNat = 2 ^ 31 - 1 from rfl, BitVec.toNat_ofNat, BitVec.toNat_ofNat, Nat.and_two_pow_sub_one_eq_mod]
  omega
theorem zlrem (X : Nat) (h : X < 2 ^ 63) : (Int64.ofNat X - Int64.ofNat X / (2147483648 : Int64) * (2147483648 : Int64)) = Int64.ofNat (X % 2147483648) := by
  have e : (2147483648 : Int64) = Int64.ofNat 2147483648 := rfl
  have ed : Int64.ofNat X / (2147483648 : Int64) = Int64.ofNat (X / 2147483648) := by
    apply Int64.toInt_inj.mp
    rw [Int64.toInt_div, Int64.toInt_ofNat_of_lt h, Int64.toInt_ofNat_of_lt (by omega)]
    have e2 : (2147483648 : Int64).toInt = 2147483648 := by decide
    rw [e2, Int.tdiv_eq_ediv_of_nonneg (by omega)]
    rw [Int.bmod_eq_of_le (by omega) (by omega)]
    omega
  rw [ed, e, ← Int64.ofNat_mul, ← Int64.ofNat_sub _ _ (by omega)]
  congr 1
  omega
theorem zl32 (n : Nat) : (Int64.ofNat n).toInt32 = nI n := by
  apply Int32.toBitVec_inj.mp
  show (BitVec.signExtend 32 (BitVec.ofNat 64 n)) = BitVec.ofNat 32 n
  apply BitVec.eq_of_getLsbD_eq
  intro i hi
  rw [BitVec.getLsbD_signExtend, BitVec.getLsbD_ofNat, BitVec.getLsbD_ofNat]
  have h64 : i < 64 := by omega
  simp [hi, h64]
theorem draw_ok {b : Nat} (hb1 : 1 ≤ b) (hb : b < 10000) {s : Int32} (hs : ¬ s < 0) (d e : Int32) : ∃ r t, r < b ∧ (¬ t < 0) ∧ fX1_draw (nI b) s = some (nI r, t) ∧ fX9_draws (nI b) d s e = some (nI r, t) := by
  obtain ⟨S, hS, rfl⟩ := zof hs
  have hX : S * 1103515245 + 12345 < 2 ^ 63 := by omega
  have ex : (nI S).toInt64 * (1103515245 : Int64) + (12345 : Int64) = Int64.ofNat (S * 1103515245 + 12345) := by
    rw [zl64 hS, Int64.ofNat_add, Int64.ofNat_mul]
    rfl
  have hT : (S * 1103515245 + 12345) % 2147483648 < 2 ^ 31 := Nat.mod_lt _ (by omega)
  refine ⟨((S * 1103515245 + 12345) % 2147483648) / 65536 % b, nI ((S * 1103515245 + 12345) % 2147483648), Nat.mod_lt _ (by omega), zn0 hT, ?_, ?_⟩
  · unfold fX1_draw
    rw [ex, zland _ hX, zl32, if_neg (by rw [show (0 : Int32) = nI 0 from rfl, zle (by omega) (by omega)]; omega)]
    unfold onz
    rw [if_neg (by rw [show (0 : Int32) = nI 0 from rfl, zeq (by omega) (by omega)]; omega)]
    rw [show (65536 : Int32) = nI 65536 from rfl, pk_div hT (by omega) (by omega), pk_rem (by omega) (by omega) (by omega)]
  · unfold fX9_draws
    rw [ex, zlrem _ hX, zl32]
    unfold onz
    rw [if_neg (by rw [show (0 : Int32) = nI 0 from rfl, zeq (by omega) (by omega)]; omega)]
    rw [show (65536 : Int32) = nI 65536 from rfl, pk_div hT (by omega) (by omega), pk_rem (by omega) (by omega) (by omega)]
theorem zImg_congr {k d : Int32} {v : zSV} {kept : Int32} {img img2 : zF} {off : Nat} (h : zImg k d v kept img off) (hi : ∀ j, j < 77 → img2 (off + j) = img (off + j)) : zImg k d v kept img2 off := by
  rcases h with h | ⟨h1, h2, h3, h4, h5⟩
  · exact Or.inl h
  · refine Or.inr ⟨h1, h2, by rw [hi 76 (by omega)]; exact h3, h4, zR9_congr h5 (fun j hj => hi j (by omega))⟩
theorem keepM_ok {p : Nat} (hp : p < 2) (deeds sd ent : Int32) (st img kept : zF) : fX9_keep (nI p) deeds sd ent st img kept = some (1, 0, upd (fun j => if 77 * p ≤ j ∧ j < 77 * p + 76 then st (0 + (j - 77 * p)) else img j) (77 * p + 76) sd, upd kept p 1) := by
  unfold fX9_keep
  have e1 : fX9_in (nI p) 0 1 = some 1 := in_in (N := 2) hp (by omega)
  have e2 : (77 : Int32) * nI p = nI (77 * p) := pk_mul 77 p
  have e3 : nI (77 * p) + (76 : Int32) = nI (77 * p + 76) := nI_add (77 * p) 76
  have eb : fX9_bring 76 154 0 (nI (77 * p)) 76 st img = _ := bring_ok (l1 := 76) (l2 := 154) (a := 0) (b := 77 * p) (n := 76) (by omega) (by omega) (by omega) (by omega) (by omega) st img
  rw [e1]
  simp only [ob1, if_neg n10]
  rw [ogd_ok hp (by omega), e2, eb]
  simp only
  rw [e3, ogd_ok (by omega) (by omega), zcl (by omega), zcl (by omega)]
theorem backM_ok {p : Nat} (hp : p < 2) (deeds sd ent : Int32) (st img kept : zF) (hk : ¬ kept p = 0) : fX9_goBack (nI p) deeds sd ent st img kept = some (1, 0, img (77 * p + 76), fun j => if 0 ≤ j ∧ j < 0 + 76 then img (77 * p + (j - 0)) else st j) := by
  unfold fX9_goBack
  have e1 : fX9_in (nI p) 0 1 = some 1 := in_in (N := 2) hp (by omega)
  have e2 : (77 : Int32) * nI p = nI (77 * p) := pk_mul 77 p
  have e3 : nI (77 * p) + (76 : Int32) = nI (77 * p + 76) := nI_add (77 * p) 76
  have eb : fX9_bring 154 76 (nI (77 * p)) 0 76 img st = _ := bring_ok (l1 := 154) (l2 := 76) (a := 77 * p) (b := 0) (n := 76) (by omega) (by omega) (by omega) (by omega) (by omega) img st
  rw [e1]
  simp only [ob1, if_neg n10]
  rw [ogd_ok hp (by omega), zcl (by omega), if_neg hk, e2, eb]
  simp only
  rw [e3, ogd_ok (by omega) (by omega), zcl (by omega)]
theorem backM_no {p : Nat} (hp : p < 2) (deeds sd ent : Int32) (st img kept : zF) (hk : kept p = 0) : fX9_goBack (nI p) deeds sd ent st img kept = some (-1000000003, deeds, sd, st) := by
  unfold fX9_goBack
  have e1 : fX9_in (nI p) 0 1 = some 1 := in_in (N := 2) hp (by omega)
  rw [e1]
  simp only [ob1, if_neg n10]
  rw [ogd_ok hp (by omega), zcl (by omega), if_pos hk]
section ZE
variable {sn sl sfin swk : Int32} {scols snear slds : zF} {qc : Int32} {qf st : zF} {N L : Nat} {go : Nat → Nat → Nat} {Ls : List Int32} {hnx hct deeds : Int32} {rg : Nat → zSV} {past : zF}
theorem undo_ok (h : zRel sn sl sfin swk scols snear slds qc qf st N L go Ls) (hh : zHist hnx hct rg deeds past) (p1 sd ent : Int32) : ∃ r a b c1 c2 c3 c4 c5 c6 c7 c8 c9 d2 st2, fX8_undo p1 hnx hct sn sl sfin swk scols snear slds qc qf rg = some (r, a, b, c1, c2, c3, c4, c5, c6, c7, c8, c9) ∧ fX9_undo p1 deeds sd ent st past = some (r, d2, st2) ∧ zR9 (c1, c2, c3, c4, c5, c6, c7, c8, c9) st2 ∧ zHist a b rg d2 past := by
  unfold fX8_undo fX9_undo
  rcases cases1 p1 (show 16 < 10000 by omega) with ⟨n, hn1, hn, rfl⟩ | ⟨hx, e0⟩
  · have e1 : fX9_in (nI n) 1 16 = some 1 := in1_in hn1 (n := 16) hn (by omega)
    rw [e1, if_neg (by rw [show (1 : Int32) = nI 1 from rfl, zlt (by omega) (by omega)]; omega), if_pos (by rw [show (16 : Int32) = nI 16 from rfl, zle (by omega) (by omega)]; omega)]
    simp only [ob1, if_neg n10]
    have hh0 := hh
    obtain ⟨hp, d, h1, h2, rfl, rfl, rfl, h3⟩ := hh
    by_cases hnd : n ≤ d
    · have hle : nI n ≤ nI d := by rw [zle (by omega) (by omega)]; exact hnd
      rw [if_pos hle, if_pos hle]
      have fl := floor_ok hp h1 n (by omega)
      obtain ⟨N2, L2, go2, Ls2, hr⟩ := h3 (d - n) (by omega)
      rw [show (hp + 16 - d + (d - n)) % 16 = (hp + 16 - n) % 16 by omega] at hr
      have em : (76 : Int32) * (nI d - nI n) = nI (76 * (d - n)) := by rw [pk_sub hnd]; exact pk_mul 76 (d - n)
      have eb : fX9_bring 1216 76 (nI (76 * (d - n))) 0 76 past st = _ := bring_ok (l1 := 1216) (l2 := 76) (a := 76 * (d - n)) (b := 0) (n := 76) (by omega) (by omega) (by omega) (by omega) (by omega) past st
      obtain ⟨a1, a2, a3, a4, a5, a6, a7, a8, a9, ec, hr2⟩ := copy9_ok hr sn sl sfin swk scols snear slds qc qf (b2 := fun j => if 0 ≤ j ∧ j < 0 + 76 then past (76 * (d - n) + (j - 0)) else st j) (fun j hj => by rw [if_pos (by omega)]; exact congrArg past (by omega))
      unfold fX2_takeBack fX2_takeBack_0
      rw [em, eb, fl]
      simp only [ob1, ob11]
      rw [ogd_ok (by omega) (by omega), zcl (by omega), ec]
      simp only [ob9]
      refine ⟨_, _, _, _, _, _, _, _, _, _, _, _, _, _, rfl, rfl, ⟨_, _, _, _, hr2⟩, (hp + 16 - n) % 16, d - n, by omega, by omega, rfl, pk_sub hnd, pk_sub hnd, fun k hk => ?_⟩
      have := h3 k (by omega)
      rw [show ((hp + 16 - n) % 16 + 16 - (d - n) + k) % 16 = (hp + 16 - d + k) % 16 by omega]
      exact this
    · have hle : ¬ nI n ≤ nI d := by rw [zle (by omega) (by omega)]; exact hnd
      rw [if_neg hle, if_neg hle]
      exact ⟨_, _, _, _, _, _, _, _, _, _, _, _, _, _, rfl, rfl, ⟨N, L, go, Ls, h⟩, hh0⟩
  · have e0 : fX9_in p1 1 16 = some 0 := e0
    rw [e0]
    rcases hx with hx | ⟨hx, hy⟩
    · rw [if_pos hx]
      exact ⟨_, _, _, _, _, _, _, _, _, _, _, _, _, _, rfl, rfl, ⟨N, L, go, Ls, h⟩, hh⟩
    · rw [if_neg hx, if_neg (show ¬ p1 ≤ 16 from hy)]
      exact ⟨_, _, _, _, _, _, _, _, _, _, _, _, _, _, rfl, rfl, ⟨N, L, go, Ls, h⟩, hh⟩
theorem ob1_some {α ρ : Type} (x : α) (b : α → Option ρ) : ob1 (some x) b = b x := by rfl
theorem ob2_some {α β ρ : Type} (x : α) (y : β) (k : α → β → Option ρ) : ob2 (some (x, y)) k = k x y := by rfl
theorem ob3_some {α β γ ρ : Type} (x : α) (y : β) (z : γ) (k : α → β → γ → Option ρ) : ob3 (some (x, y, z)) k = k x y z := by rfl
theorem ob4_some {α β γ δ ρ : Type} (x : α) (y : β) (z : γ) (u : δ) (k : α → β → γ → δ → Option ρ) : ob4 (some (x, y, z, u)) k = k x y z u := by rfl
theorem ob5_some {α β γ δ ε ρ : Type} (x : α) (y : β) (z : γ) (u : δ) (v : ε) (k : α → β → γ → δ → ε → Option ρ) : ob5 (some (x, y, z, u, v)) k = k x y z u v := by rfl
theorem ob6_some {α β γ δ ε ζ ρ : Type} (x : α) (y : β) (z : γ) (u : δ) (v : ε) (w : ζ) (k : α → β → γ → δ → ε → ζ → Option ρ) : ob6 (some (x, y, z, u, v, w)) k = k x y z u v w := by rfl
theorem ob7_some {α β γ δ ε ζ η ρ : Type} (x : α) (y : β) (z : γ) (u : δ) (v : ε) (w : ζ) (a : η) (k : α → β → γ → δ → ε → ζ → η → Option ρ) : ob7 (some (x, y, z, u, v, w, a)) k = k x y z u v w a := by rfl
theorem ob8_some {α β γ δ ε ζ η θ ρ : Type} (x : α) (y : β) (z : γ) (u : δ) (v : ε) (w : ζ) (a : η) (b : θ) (k : α → β → γ → δ → ε → ζ → η → θ → Option ρ) : ob8 (some (x, y, z, u, v, w, a, b)) k = k x y z u v w a b := by rfl
theorem ob9_some {α β γ δ ε ζ η θ κ ρ : Type} (x : α) (y : β) (z : γ) (u : δ) (v : ε) (w : ζ) (a : η) (b : θ) (c : κ) (k : α → β → γ → δ → ε → ζ → η → θ → κ → Option ρ) : ob9 (some (x, y, z, u, v, w, a, b, c)) k = k x y z u v w a b c := by rfl
theorem change_ok (h : zRel sn sl sfin swk scols snear slds qc qf st N L go Ls) (hh : zHist hnx hct rg deeds past) {dst : Int32} (hd : ¬ dst < 0) (ent : Int32) : ∃ hnx2 hct2 rg2 t c1 c2 c3 c4 d2 st2 p2, fX2_remember hnx hct sn sl sfin swk scols snear slds qc qf rg = some (hnx2, hct2, rg2) ∧ fX1_change dst sn sl sfin swk scols snear slds = some (t, c1, c2, c3, c4) ∧ fX9_driftsOnce deeds dst ent st past = some (d2, t, st2, p2) ∧ (¬ t < 0) ∧ zR9 (sn, sl, c1, swk, c2, c3, c4, qc, qf) st2 ∧ zHist hnx2 hct2 rg2 d2 p2 := by
  have h0 := h
  obtain ⟨⟨hN1, hN⟩, ⟨hL1, hL⟩, ⟨en, eb0⟩, ⟨el, eb1⟩, ⟨ef, hfs⟩, ew, hcols, hnear, hsym, hirr, hgo, hrc, hok, hcov, hrm⟩ := h
  obtain ⟨hnx2, hct2, rg2, deeds2, past2, eX, eM, hh2⟩ := remember_ok h0 hh dst ent
  subst en el
  obtain ⟨r, t1, hr, ht1, ea, eb⟩ := draw_ok (b := 4) (by omega) (by omega) hd deeds2 ent
  rw [show nI 4 = (4 : Int32) from rfl] at ea eb
  obtain ⟨i, t2, hi, ht2, ec, ed⟩ := draw_ok (b := N) hN1 (by omega) ht1 deeds2 ent
  refine ⟨hnx2, hct2, rg2, ?_⟩
  unfold fX1_change fX9_driftsOnce
  rw [ea, ob2_some, eM, ob2_some, eb, ob2_some, eb0, eb1]
  have hr4 : r = 0 ∨ r = 1 ∨ r = 2 ∨ r = 3 := by omega
  rcases hr4 with rfl | rfl | rfl | rfl
  · rw [if_pos (show nI 0 = (0 : Int32) from rfl), if_neg (show ¬ nI 0 = (3 : Int32) by decide), ed, ob2_some, if_pos (show nI 0 = (0 : Int32) from rfl)]
    obtain ⟨j, t3, hj, ht3, ee, eg⟩ := draw_ok (b := N) hN1 (by omega) ht2 deeds2 ent
    unfold fX1_changeEdge
    rw [ec, ob2_some, eg, ob2_some, ee, ob2_some]
    by_cases hij : i = j
    · subst hij
      have e5 : fX6_flipEdge (nI i) (nI i) (nI N) (nI L) sfin swk snear = some snear := by
        unfold fX6_flipEdge
        rw [hasItem_in hi hN]
        simp only [ob1, if_neg n10, if_true]
      rw [e5, if_pos rfl, ob1_some, ob2_some]
      exact ⟨_, _, _, _, _, _, _, _, eX, rfl, rfl, ht3, ⟨N, L, go, Ls, h0⟩, hh2⟩
    · obtain ⟨near2, st2, f1, f2, hr2⟩ := flip_rel h0 hi hj hij deeds2 t3 ent
      rw [f1, f2, if_neg (by rw [zeq (by omega) (by omega)]; exact hij), ob1_some, ob2_some, ob1_some]
      exact ⟨_, _, _, _, _, _, _, _, eX, rfl, rfl, ht3, ⟨N, L, go, Ls, hr2⟩, hh2⟩
  · rw [if_neg (show ¬ nI 1 = (0 : Int32) by decide), if_pos (show nI 1 = (1 : Int32) from rfl), if_neg (show ¬ nI 1 = (3 : Int32) by decide), ed, ob2_some, if_neg (show ¬ nI 1 = (0 : Int32) by decide), if_pos (show nI 1 = (1 : Int32) from rfl)]
    obtain ⟨v, t3, hv, ht3, ee, eg⟩ := draw_ok (b := 256) (by omega) (by omega) ht2 deeds2 ent
    rw [show nI 256 = (256 : Int32) from rfl] at ee eg
    unfold fX1_changeColumns
    rw [ec, ob2_some, eg, ob2_some, ee, ob2_some, hasItem_in hi hN, ob1_some, if_neg n10, ogd_ok (by omega) (by omega), zcl (by omega), za4, ogd_ok (by omega) (by omega), zcl (by omega), ob2_some]
    refine ⟨_, _, _, _, _, _, _, _, eX, rfl, rfl, ht3, ⟨N, L, go, Ls, ⟨hN1, hN⟩, ⟨hL1, hL⟩, ⟨rfl, by rw [pk_un (by omega)]; exact eb0⟩, ⟨rfl, by rw [pk_un (by omega)]; exact eb1⟩, ⟨by rw [pk_un (by omega)]; exact ef, hfs⟩, by rw [pk_un (by omega)]; exact ew, fun a ha => ?_, fun a ha => by rw [pk_un (by omega)]; exact hnear a ha, hsym, hirr, fun c a hc ha => by rw [pk_un (by omega)]; exact hgo c a hc ha, hrc, hok, hcov, fun a ha => by show upd (_) _ _ _ = _; rw [pk_un (by omega)]; exact hrm a ha⟩, hh2⟩
    by_cases hai : a = i
    · subst hai
      dsimp only
      rw [pk_us, pk_us]
      exact ⟨rfl, zsub_nI (N := 8) hv⟩
    · dsimp only
      rw [pk_un hai, pk_un (by omega)]
      exact hcols a ha
  · rw [if_neg (show ¬ nI 2 = (0 : Int32) by decide), if_neg (show ¬ nI 2 = (1 : Int32) by decide), if_pos (show nI 2 = (2 : Int32) from rfl), if_neg (show ¬ nI 2 = (3 : Int32) by decide), ed, ob2_some, if_neg (show ¬ nI 2 = (0 : Int32) by decide), if_neg (show ¬ nI 2 = (1 : Int32) by decide)]
    obtain ⟨k, t3, hk, ht3, ee, eg⟩ := draw_ok (b := L) hL1 (by omega) ht2 deeds2 ent
    obtain ⟨j, t4, hj, ht4, ek, em⟩ := draw_ok (b := N) hN1 (by omega) ht3 deeds2 ent
    unfold fX1_changeMachine
    rw [ec, ob2_some, eg, ob2_some, ee, ob2_some, em, ob2_some, ek, ob2_some, lead_in hi hj hN hk hL, ob1_some, ob2_some, zgo, ogd_ok (by omega) (by omega), zcl (by omega)]
    refine ⟨_, _, _, _, _, _, _, _, eX, rfl, rfl, ht4, ⟨N, L, (fun c a => if c = k ∧ a = i then j else go c a), Ls, ⟨hN1, hN⟩, ⟨hL1, hL⟩, ⟨rfl, by rw [pk_un (by omega)]; exact eb0⟩, ⟨rfl, by rw [pk_un (by omega)]; exact eb1⟩, ⟨by rw [pk_un (by omega)]; exact ef, hfs⟩, by rw [pk_un (by omega)]; exact ew, fun a ha => by rw [pk_un (by omega)]; exact hcols a ha, fun a ha => by rw [pk_un (by omega)]; exact hnear a ha, hsym, hirr, fun c a hc ha => ?_, hrc, hok, hcov, fun a ha => by show upd (_) _ _ _ = _; rw [pk_un (by omega)]; exact hrm a ha⟩, hh2⟩
    by_cases hca : c = k ∧ a = i
    · obtain ⟨rfl, rfl⟩ := hca
      dsimp only
      rw [pk_us, pk_us, if_pos ⟨rfl, rfl⟩]
      exact ⟨hj, rfl, rfl⟩
    · dsimp only
      rw [if_neg hca, pk_un (by omega), pk_un (by omega)]
      exact hgo c a hc ha
  · rw [if_neg (show ¬ nI 3 = (0 : Int32) by decide), if_neg (show ¬ nI 3 = (1 : Int32) by decide), if_neg (show ¬ nI 3 = (2 : Int32) by decide), if_pos (show nI 3 = (3 : Int32) from rfl), zpw hN]
    have hp2 := zpw_le hN
    obtain ⟨v, t3, hv, ht3, ee, eg⟩ := draw_ok (b := 2 ^ N) (by omega) (by omega) ht1 deeds2 ent
    rw [ee, eg, ob2_some, ob2_some]
    refine ⟨_, _, _, _, _, _, _, _, eX, rfl, rfl, ht3, ⟨N, L, go, Ls, ⟨hN1, hN⟩, ⟨hL1, hL⟩, ⟨rfl, by rw [pk_un (by omega)]; exact eb0⟩, ⟨rfl, by rw [pk_un (by omega)]; exact eb1⟩, ⟨by rw [pk_us], zsub_nI hv⟩, by rw [pk_un (by omega)]; exact ew, fun a ha => by rw [pk_un (by omega)]; exact hcols a ha, fun a ha => by rw [pk_un (by omega)]; exact hnear a ha, hsym, hirr, fun c a hc ha => by rw [pk_un (by omega)]; exact hgo c a hc ha, hrc, hok, hcov, fun a ha => by show upd (_) _ _ _ = _; rw [pk_un (by omega)]; exact hrm a ha⟩, hh2⟩
theorem drift_ok (h : zRel sn sl sfin swk scols snear slds qc qf st N L go Ls) (hh : zHist hnx hct rg deeds past) {dst : Int32} (hd : ¬ dst < 0) (p1 ent : Int32) : ∃ r a b c1 c2 c3 c4 t g d2 st2 q3, fX8_drift p1 hnx hct sn sl sfin swk scols snear slds qc qf dst rg = some (r, a, b, c1, c2, c3, c4, t, g) ∧ fX9_drift p1 deeds dst ent st past = some (r, d2, t, st2, q3) ∧ (¬ t < 0) ∧ zR9 (sn, sl, c1, swk, c2, c3, c4, qc, qf) st2 ∧ zHist a b g d2 q3 := by
  unfold fX8_drift fX9_drift
  rcases cases1 p1 (show 12 < 10000 by omega) with ⟨n, hn1, hn, rfl⟩ | ⟨hx, e0⟩
  · have e1 : fX9_in (nI n) 1 12 = some 1 := in1_in hn1 (n := 12) hn (by omega)
    rw [e1, if_neg (by rw [show (1 : Int32) = nI 1 from rfl, zlt (by omega) (by omega)]; omega), if_pos (by rw [show (12 : Int32) = nI 12 from rfl, zle (by omega) (by omega)]; omega)]
    simp only [ob1, if_neg n10]
    obtain ⟨⟨a, b, c1, c2, c3, c4, t, g⟩, ⟨d2, t2, st2, q3⟩, e2, e3, ht, hd2, ⟨N2, L2, go2, Ls2, hr⟩, hh2⟩ := olp2 (f := fX8_drift_s16 (nI n) sn sl swk qc qf) (g := fX9_drift_s15 (nI n) ent) (fun r q => r.2.2.2.2.2.2.1 = q.2.1 ∧ (¬ q.2.1 < 0) ∧ zR9 (sn, sl, r.2.2.1, swk, r.2.2.2.1, r.2.2.2.2.1, r.2.2.2.2.2.1, qc, qf) q.2.2.1 ∧ zHist r.1 r.2.1 r.2.2.2.2.2.2.2 q.1 q.2.2.2) (fun i s q => s.1 = nI i ∧ q.1 = nI i ∧ s.2.2.2.2.2.2.2.1 = q.2.2.1 ∧ (¬ q.2.2.1 < 0) ∧ zR9 (sn, sl, s.2.2.2.1, swk, s.2.2.2.2.1, s.2.2.2.2.2.1, s.2.2.2.2.2.2.1, qc, qf) q.2.2.2.1 ∧ zHist s.2.1 s.2.2.1 s.2.2.2.2.2.2.2.2 q.2.1 q.2.2.2.2) n (by
        rintro i ⟨x, a, b, c1, c2, c3, c4, t, g⟩ ⟨y, d2, t2, st2, q3⟩ hi ⟨h1, h2, h3, h4, ⟨N2, L2, go2, Ls2, hr⟩, h6⟩
        dsimp only at h1 h2 h3 h4 hr h6
        subst h1 h2 h3
        obtain ⟨hnx2, hct2, rg2, t3, k1, k2, k3, k4, d3, st3, p3, f1, f2, f3, f4, f5, f6⟩ := change_ok hr h6 h4 ent
        unfold fX8_drift_s16 fX8_drift_b16 fX9_drift_s15 fX9_drift_b15
        dsimp only
        rw [if_neg (by rw [zle (by omega) (by omega)]; omega), if_neg (by rw [zle (by omega) (by omega)]; omega), f1, ob3_some, f2, ob5_some, f3, ob4_some, nI_1]
        exact ⟨_, _, rfl, rfl, rfl, rfl, rfl, f4, f5, f6⟩) (by
        rintro ⟨x, a, b, c1, c2, c3, c4, t, g⟩ ⟨y, d2, t2, st2, q3⟩ ⟨h1, h2, h3, h4, h5, h6⟩
        dsimp only at h1 h2 h3 h4 h5 h6
        subst h1 h2 h3
        unfold fX8_drift_s16 fX8_drift_b16 fX9_drift_s15 fX9_drift_b15
        dsimp only
        rw [if_pos (by rw [zle (by omega) (by omega)]; omega), if_pos (by rw [zle (by omega) (by omega)]; omega)]
        exact ⟨_, _, rfl, rfl, rfl, h4, h5, h6⟩) oFu 0 (0, hnx, hct, sfin, scols, snear, slds, dst, rg) (0, deeds, dst, st, past) (by omega) (by show n - 0 < 10000; omega) ⟨rfl, rfl, rfl, hd, ⟨N, L, go, Ls, h⟩, hh⟩
    rw [e2, e3, ob8_some, ob4_some]
    dsimp only at ht hd2 hr hh2
    subst ht
    obtain ⟨w1, k1, k2⟩ := edgeN_ok hr d2 t ent
    rw [k1, k2]
    exact ⟨_, _, _, _, _, _, _, _, _, _, _, _, rfl, rfl, hd2, ⟨_, _, _, _, hr⟩, hh2⟩
  · have e0 : fX9_in p1 1 12 = some 0 := e0
    rw [e0]
    rcases hx with hx | ⟨hx, hy⟩
    · rw [if_pos hx]
      exact ⟨_, _, _, _, _, _, _, _, _, _, _, _, rfl, rfl, hd, ⟨N, L, go, Ls, h⟩, hh⟩
    · rw [if_neg hx, if_neg (show ¬ p1 ≤ 12 from hy)]
      exact ⟨_, _, _, _, _, _, _, _, _, _, _, _, rfl, rfl, hd, ⟨N, L, go, Ls, h⟩, hh⟩
end ZE
