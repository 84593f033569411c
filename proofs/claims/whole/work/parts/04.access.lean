/-- a file's number is below 0, from 6 on, or from 0 to 5 -/
theorem cf_fc (x : Int32) : (x < 0 ∨ ∃ m : Nat, 6 ≤ m ∧ m < 2 ^ 31 ∧ x = nI m) ∨ ∃ j : Nat, j < 6 ∧ x = nI j := by
  by_cases h : x < 0
  · exact Or.inl (Or.inl h)
  · obtain ⟨m, hm, e⟩ := nI_of h
    by_cases h6 : m < 6
    · exact Or.inr ⟨m, h6, e⟩
    · exact Or.inl (Or.inr ⟨m, by omega, hm, e⟩)
theorem cf_fb {post : Int32 → Prop} {x : Int32} (h : x < 0 ∨ ∃ m : Nat, 6 ≤ m ∧ m < 2 ^ 31 ∧ x = nI m) (hp : post 0) : wpX_isFileNumber post x := by
  rcases h with h | ⟨m, h6, hm, rfl⟩
  · exact br_t h hp
  · exact br_f (nI_pos hm) (br_t (nI_le (a := 6) h6 hm) hp)
theorem cf_fo {post : Int32 → Prop} {j : Nat} (hj : j < 6) (hp : post 1) : wpX_isFileNumber post (nI j) :=
  br_f (nI_pos (by omega)) (br_f (nI_ge (b := 6) hj (by decide)) hp)
theorem cf_xsb {post : Int32 → Prop} {tr vf op : Int32} {S L B : Nat → Int32} {x : Int32} (h : x < 0 ∨ ∃ m : Nat, 6 ≤ m ∧ m < 2 ^ 31 ∧ x = nI m) (hp : post 0) : wpX_size post (tr, vf, op, S, L, B) x := by
  unfold wpX_size
  dsimp only
  refine cf_fb h ?_
  exact br_t rfl hp
theorem cf_in0 {j : Nat} (hj : j < 6) : vp_in ((0 : Int32) + nI j) 109 := by
  rw [cf_ix0]
  exact vp_in_nI (by omega) (by decide)
theorem cf_cl0 {j : Nat} (hj : j < 6) : ((0 : Int32) + nI j).toNatClampNeg = j := by
  rw [cf_ix0]
  exact nI_clamp (by omega)
theorem cf_in6 {j : Nat} (hj : j < 6) : vp_in ((6 : Int32) + nI j) 109 := by
  rw [cf_ix6]
  exact vp_in_nI (by omega) (by decide)
theorem cf_cl6 {j : Nat} (hj : j < 6) : ((6 : Int32) + nI j).toNatClampNeg = 6 + j := by
  rw [cf_ix6]
  exact nI_clamp (by omega)
theorem cf_xso {post : Int32 → Prop} {tr vf op : Int32} {S L B : Nat → Int32} {j : Nat} (hj : j < 6) (hp : post (S j)) : wpX_size post (tr, vf, op, S, L, B) (nI j) := by
  unfold wpX_size
  dsimp only
  refine cf_fo hj ?_
  refine br_f cf_0ne ⟨cf_in0 hj, ?_⟩
  rw [cf_cl0 hj]
  exact hp
theorem i_vc_size {k : Nat} {u : SX} {v : SY} (I : i_Rel k u v) (hk : k + 4 ≤ 2048) (v1 : Int32) : wpX_size (fun r => wpY_size (fun r' => r' = r ∧ i_Rel (k + 4) u v) v v1) u v1 := by
  obtain ⟨tr, vf, op, S, L, B⟩ := u
  obtain ⟨cd, tr', vf', op', ch, oc, sz, gd, bs, sn, os, og, ob⟩ := v
  obtain ⟨rfl, rfl, rfl, R⟩ := I
  obtain ⟨bx, e, _⟩ := cf_R_S R
  rcases cf_fc v1 with h | ⟨j, hj, rfl⟩
  · refine cf_xsb h ?_
    rcases h with h | ⟨m, h6, hm, rfl⟩
    · exact br_t h ⟨rfl, rfl, rfl, rfl, R⟩
    · exact br_f (nI_pos hm) (br_f (nI_ge (a := 5) (by omega) hm) ⟨rfl, rfl, rfl, rfl, R⟩)
  · refine cf_xso hj ?_
    refine br_f (nI_pos (by omega)) (br_t (nI_le (b := 5) (by omega) (by decide)) ⟨vp_in_nI hj (by decide), ?_, rfl, rfl, rfl, R⟩)
    rw [nI_clamp (by omega), e, cf_im_sz hj]
/-- both sides refuse with one answer below 0, or both go on, at a file that is there and an offset within -/
theorem cf_acc {tr vf op cd ch oc : Int32} {S L B sz gd bs bx sn os og ob : Nat → Int32} (hS : S = cf_im sz gd bx cd) (hk : cf_ok sz gd bs) (p q : Int32) : (∃ r : Int32, ¬ r = 0 ∧ ¬ 0 ≤ r ∧ (∀ post : Int32 → Prop, post r → wpX_refusalOfAccess post (tr, vf, op, S, L, B) p q) ∧ (∀ post : Int32 → Prop, post r → wpY_refuse post (cd, tr, vf, op, ch, oc, sz, gd, bs, sn, os, og, ob) p q)) ∨ (∃ j o : Nat, j < 6 ∧ o < 16 ∧ p = nI j ∧ q = nI o ∧ ¬ sz j = 0 ∧ (∀ post : Int32 → Prop, post 0 → wpX_refusalOfAccess post (tr, vf, op, S, L, B) p q) ∧ (∀ post : Int32 → Prop, post 0 → wpY_refuse post (cd, tr, vf, op, ch, oc, sz, gd, bs, sn, os, og, ob) p q)) := by
  subst hS
  have m1 : ¬ (-1 : Int32) = 0 := by decide
  have m2 : ¬ (0 : Int32) ≤ -1 := by decide
  have m3 : ¬ (-3 : Int32) = 0 := by decide
  have m4 : ¬ (0 : Int32) ≤ -3 := by decide
  by_cases hq : q < 0
  · refine Or.inl ⟨-1, m1, m2, fun post hp => br_t hq hp, fun post hp => ?_⟩
    rcases cf_fc p with (h | ⟨m, h6, hm, rfl⟩) | ⟨j, hj, rfl⟩
    · exact br_t h hp
    · exact br_f (nI_pos hm) (br_t (nI_lt (a := 5) (by omega) hm) hp)
    · exact br_f (nI_pos (by omega)) (br_f (nI_nlt (a := 5) (by omega) (by decide)) (br_t hq hp))
  · obtain ⟨o, ho, rfl⟩ := nI_of hq
    rcases cf_fc p with h | ⟨j, hj, rfl⟩
    · refine Or.inl ⟨-1, m1, m2, fun post hp => br_f hq (cf_xsb h (br_f hq hp)), fun post hp => ?_⟩
      rcases h with h | ⟨m, h6, hm, rfl⟩
      · exact br_t h hp
      · exact br_f (nI_pos hm) (br_t (nI_lt (a := 5) (by omega) hm) hp)
    · obtain ⟨s, hs, es⟩ := hk.1 j hj
      have j0 : ¬ nI j < 0 := nI_pos (by omega)
      have j5 : ¬ (5 : Int32) < nI j := nI_nlt (a := 5) (by omega) (by decide)
      have ji : vp_in (nI j) 6 := vp_in_nI hj (by decide)
      have jc : (nI j).toNatClampNeg = j := nI_clamp (by omega)
      have xs : cf_im sz gd bx cd j = nI s := by rw [cf_im_sz hj, es]
      have ys : sz (nI j).toNatClampNeg = nI s := by rw [jc, es]
      have xg : cf_im sz gd bx cd ((6 : Int32) + nI j).toNatClampNeg = gd j := by rw [cf_cl6 hj, cf_im_gd hj]
      have yg : gd (nI j).toNatClampNeg = gd j := by rw [jc]
      by_cases os : o < s
      · have lx : nI o < cf_im sz gd bx cd j := by rw [xs]; exact nI_lt os (by omega)
        have ly : nI o < sz (nI j).toNatClampNeg := by rw [ys]; exact nI_lt os (by omega)
        have nz : ¬ sz j = 0 := by rw [es]; exact nI_ne0 (by omega) (by omega)
        by_cases g : gd j = 0
        · refine Or.inr ⟨j, o, hj, by omega, rfl, rfl, nz, fun post hp => ?_, fun post hp => ?_⟩
          · exact br_f hq (cf_xso hj (br_t lx ⟨cf_in6 hj, br_t (xg.trans g) hp⟩))
          · exact br_f j0 (br_f j5 (br_f hq ⟨ji, br_t ly ⟨ji, br_t (yg.trans g) hp⟩⟩))
        · by_cases v : vf = 0
          · refine Or.inl ⟨-3, m3, m4, fun post hp => ?_, fun post hp => ?_⟩
            · exact br_f hq (cf_xso hj (br_t lx ⟨cf_in6 hj, br_f (fun z => g (xg.symm.trans z)) (br_t v hp)⟩))
            · exact br_f j0 (br_f j5 (br_f hq ⟨ji, br_t ly ⟨ji, br_f (fun z => g (yg.symm.trans z)) (br_t v hp)⟩⟩))
          · refine Or.inr ⟨j, o, hj, by omega, rfl, rfl, nz, fun post hp => ?_, fun post hp => ?_⟩
            · exact br_f hq (cf_xso hj (br_t lx ⟨cf_in6 hj, br_f (fun z => g (xg.symm.trans z)) (br_f v hp)⟩))
            · exact br_f j0 (br_f j5 (br_f hq ⟨ji, br_t ly ⟨ji, br_f (fun z => g (yg.symm.trans z)) (br_f v hp)⟩⟩))
      · have lx : ¬ nI o < cf_im sz gd bx cd j := by rw [xs]; exact nI_nlt (by omega) ho
        have ly : ¬ nI o < sz (nI j).toNatClampNeg := by rw [ys]; exact nI_nlt (by omega) ho
        refine Or.inl ⟨-1, m1, m2, fun post hp => ?_, fun post hp => ?_⟩
        · exact br_f hq (cf_xso hj (br_f lx hp))
        · exact br_f j0 (br_f j5 (br_f hq ⟨ji, br_f ly hp⟩))
theorem cf_pl {post : Int32 → Prop} {j o : Nat} (hp : post (nI (12 + (16 * j + o)))) : wpX_placeOf post (nI j) (nI o) := by
  unfold wpX_placeOf
  rw [cf_ix12]
  exact hp
theorem i_vc_read {k : Nat} {u : SX} {v : SY} (I : i_Rel k u v) (hk : k + 4 ≤ 2048) (v1 : Int32) (v2 : Int32) : wpX_read (fun r => wpY_read (fun r' => r' = r ∧ i_Rel (k + 4) u v) v v1 v2) u v1 v2 := by
  obtain ⟨tr, vf, op, S, L, B⟩ := u
  obtain ⟨cd, tr', vf', op', ch, oc, sz, gd, bs, sn, os, og, ob⟩ := v
  obtain ⟨rfl, rfl, rfl, R⟩ := I
  obtain ⟨bx, eS, ox, e0, e1⟩ := cf_R_S R
  have r6 := R.2.2.2.2.2.1
  rcases cf_acc (tr := tr') (vf := vf') (op := op') (ch := ch) (oc := oc) (L := L) (B := B) (sn := sn) (os := os) (og := og) (ob := ob) eS r6 v1 v2 with ⟨r, n0, n1, hX, hY⟩ | ⟨j, o, hj, ho, rfl, rfl, nz, hX, hY⟩
  · unfold wpX_read wpY_read
    dsimp only
    refine hX _ ?_
    refine br_f n0 ?_
    refine hY _ ?_
    exact br_f n1 ⟨rfl, rfl, rfl, rfl, R⟩
  · have iy : vp_in ((16 : Int32) * nI j + nI o) 96 := by rw [cf_ix]; exact vp_in_nI (by omega) (by decide)
    have cy : ((16 : Int32) * nI j + nI o).toNatClampNeg = 16 * j + o := by rw [cf_ix]; exact nI_clamp (by omega)
    have cx : (nI (12 + (16 * j + o))).toNatClampNeg = 12 + (16 * j + o) := nI_clamp (by omega)
    have ex : S (nI (12 + (16 * j + o))).toNatClampNeg = bx (16 * j + o) := by rw [cx, eS, cf_im_bs (by omega)]
    unfold wpX_read wpY_read
    dsimp only
    refine hX _ ?_
    refine br_t rfl ?_
    refine cf_pl ?_
    refine ⟨vp_in_nI (by omega) (by decide), ?_⟩
    refine hY _ ?_
    refine br_t (by decide) ?_
    by_cases h : op' = 0
    · refine br_t h ⟨iy, ?_, rfl, rfl, rfl, R⟩
      rw [ex, cy, e0 h]
    · refine br_f h ⟨iy, ?_, rfl, rfl, rfl, R⟩
      rw [ex, cy, e1 h]
theorem i_vc_update {k : Nat} {u : SX} {v : SY} (I : i_Rel k u v) (hk : k + 4 ≤ 2048) (v1 : Int32) (v2 : Int32) (v3 : Int32) : wpX_update (fun r u' => wpY_update (fun r' v' => r' = r ∧ i_Rel (k + 4) u' v') v v1 v2 v3) u v1 v2 v3 := by
  obtain ⟨tr, vf, op, S, L, B⟩ := u
  obtain ⟨cd, tr', vf', op', ch, oc, sz, gd, bs, sn, os, og, ob⟩ := v
  obtain ⟨rfl, rfl, rfl, R⟩ := I
  obtain ⟨bx, eS, ox, e0, e1⟩ := cf_R_S R
  have hB := cf_R_B R
  obtain ⟨r1, r2, r3, r4, r5, r6, r7, r8, r9, r10⟩ := id R
  rcases cf_acc (tr := tr') (vf := vf') (op := op') (ch := ch) (oc := oc) (L := L) (B := B) (sn := sn) (os := os) (og := og) (ob := ob) eS r6 v1 v2 with ⟨r, n0, n1, hX, hY⟩ | ⟨j, o, hj, ho, rfl, rfl, nz, hX, hY⟩
  · unfold wpX_update
    dsimp only
    refine hX _ ?_
    refine br_f n0 ?_
    unfold wpY_update
    dsimp only
    refine hY _ ?_
    exact br_f n1 ⟨rfl, rfl, rfl, rfl, R⟩
  · have iy : vp_in ((16 : Int32) * nI j + nI o) 96 := by rw [cf_ix]; exact vp_in_nI (by omega) (by decide)
    have cy : ((16 : Int32) * nI j + nI o).toNatClampNeg = 16 * j + o := by rw [cf_ix]; exact nI_clamp (by omega)
    have cx : (nI (12 + (16 * j + o))).toNatClampNeg = 12 + (16 * j + o) := nI_clamp (by omega)
    have ex : upd S (nI (12 + (16 * j + o))).toNatClampNeg (v3 &&& 255) = cf_im sz gd (upd bx (16 * j + o) (v3 &&& 255)) cd := by rw [cx, eS, cf_up_bs (by omega)]
    have ok := cf_ok_update (x := v3 &&& 255) ox hj ho nz
    have zL : cf_z 109 L := by rw [r1]; exact cf_im_z
    unfold wpX_update
    dsimp only
    refine hX _ ?_
    refine br_t rfl ?_
    refine cf_pl ?_
    refine ⟨vp_in_nI (by omega) (by decide), nm_r ex ?_⟩
    by_cases h : op' = 0
    · obtain rfl := e0 h
      refine br_t h (cf_ml cf_im_z zL hB ?_)
      dsimp only
      unfold wpY_update
      dsimp only
      refine hY _ ?_
      refine br_t (by decide) (br_t h (cf_keep r6 r8 r9 r10 ?_))
      dsimp only
      refine ⟨iy, nm_r (congrArg (fun z => upd bx z (v3 &&& 255)) cy) ⟨rfl, rfl, rfl, rfl, ?_⟩⟩
      rw [r1]
      exact cf_R_new h r6 ok r7
    · obtain rfl := e1 h
      refine br_f h ?_
      unfold wpY_update
      dsimp only
      refine hY _ ?_
      refine br_t (by decide) (br_f h ⟨iy, nm_r (congrArg (fun z => upd bx z (v3 &&& 255)) cy) ⟨rfl, rfl, rfl, rfl, ?_⟩⟩)
      exact ⟨r1, fun z => absurd z h, fun _ => ⟨rfl, ok⟩, r4, r5, r6, ok.2.2.2.2.2, r8, r9, r10⟩
