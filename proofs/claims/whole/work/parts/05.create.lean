theorem cf_x67 {post : Int32 → SX → Prop} {g tr vf op : Int32} {S S' L B : Nat → Int32} {j : Nat} (hj : j < 6) (e : upd S (6 + j) g = S') (hS : cf_z 109 S') (hL : cf_z 109 L) (hB : cf_z 109 B) (hp : post 0 (tr, vf, op, S', S', L)) : wX_create_67 post g (6 + nI j) tr vf op S L B := by
  unfold wX_create_67
  refine ⟨cf_in6 hj, nm_r (e' := S') ?_ (cf_ml hS hL hB ?_)⟩
  · rw [cf_cl6 hj, e]
  · exact hp
theorem i_vc_create {k : Nat} {u : SX} {v : SY} (I : i_Rel k u v) (hk : k + 4 ≤ 2048) (v1 : Int32) (v2 : Int32) (v3 : Int32) : wpX_create (fun r u' => wpY_create (fun r' v' => r' = r ∧ i_Rel (k + 4) u' v') v v1 v2 (lw_bz v3)) u v1 v2 (lw_bz v3) := by
  obtain ⟨tr, vf, op, S, L, B⟩ := u
  obtain ⟨cd, tr', vf', op', ch, oc, sz, gd, bs, sn, os, og, ob⟩ := v
  obtain ⟨rfl, rfl, rfl, R⟩ := I
  obtain ⟨bx, eS, ox, e0, e1⟩ := cf_R_S R
  have hB := cf_R_B R
  obtain ⟨r1, r2, r3, r4, r5, r6, r7, r8, r9, r10⟩ := id R
  have zL : cf_z 109 L := by rw [r1]; exact cf_im_z
  unfold wpX_create
  dsimp only
  rcases cf_fc v1 with h | ⟨j, hj, rfl⟩
  · refine cf_fb h ?_
    refine br_t rfl ?_
    rcases h with h | ⟨m, h6, hm, rfl⟩
    · exact br_t h ⟨rfl, rfl, rfl, rfl, R⟩
    · exact br_f (nI_pos hm) (br_t (nI_lt (a := 5) (by omega) hm) ⟨rfl, rfl, rfl, rfl, R⟩)
  · obtain ⟨s, hs, es⟩ := r6.1 j hj
    have j0 : ¬ nI j < 0 := nI_pos (by omega)
    have j5 : ¬ (5 : Int32) < nI j := nI_nlt (a := 5) (by omega) (by decide)
    have ji : vp_in (nI j) 6 := vp_in_nI hj (by decide)
    have jc : (nI j).toNatClampNeg = j := nI_clamp (by omega)
    have xs : S ((0 : Int32) + nI j).toNatClampNeg = sz j := by rw [cf_cl0 hj, eS, cf_im_sz hj]
    have ys : sz (nI j).toNatClampNeg = sz j := by rw [jc]
    refine cf_fo hj ?_
    refine br_f cf_0ne ⟨cf_in0 hj, ?_⟩
    by_cases z : sz j = 0
    · have yz : ¬ 0 < sz (nI j).toNatClampNeg := by rw [ys, z]; decide
      refine br_t (xs.trans z) ?_
      by_cases h1 : v2 < 1
      · exact br_t h1 (br_f j0 (br_f j5 ⟨ji, br_f yz (br_t h1 ⟨rfl, rfl, rfl, rfl, R⟩)⟩))
      by_cases h2 : v2 ≤ 16
      · by_cases h : op' = 0
        · obtain rfl := e0 h
          obtain ⟨w, hw, rfl⟩ : ∃ w : Nat, w ≤ 16 ∧ v2 = nI w := nI_of2 (M := 16) (by decide) (fun a => h1 (Int32.lt_trans a (by decide))) h2
          have w1 : 1 ≤ w := by
            by_cases w0 : w = 0
            · subst w0
              exact absurd (by decide) h1
            · omega
          have eu : upd S ((0 : Int32) + nI j).toNatClampNeg (nI w) = cf_im (upd sz j (nI w)) gd bx cd := by rw [cf_cl0 hj, eS, cf_up_sz hj]
          have mk : ∀ g : Int32, lw_bz v3 = g → (g = 0 ∨ g = 1) → wpY_create (fun r' v' => r' = 0 ∧ i_Rel (k + 4) (tr', vf', op', cf_im (upd sz j (nI w)) (upd gd j g) bx cd, cf_im (upd sz j (nI w)) (upd gd j g) bx cd, L) v') (cd, tr', vf', op', ch, oc, sz, gd, bx, sn, os, og, ob) (nI j) (nI w) (lw_bz v3) := by
            intro g eg hg
            refine br_f j0 (br_f j5 ⟨ji, br_f yz (br_f h1 (br_t h2 (br_t h (cf_keep r6 r8 r9 r10 ?_))))⟩)
            dsimp only
            refine ⟨ji, nm_r (congrArg (fun y => upd sz y (nI w)) jc) ⟨ji, nm_r (e' := upd gd j g) ?_ (cf_zero hj (r6.2.2.1 j hj z) ⟨rfl, rfl, rfl, rfl, ?_⟩)⟩⟩
            · rw [jc, eg, cf_bo hg]
            · rw [r1]
              exact cf_R_new h r6 (cf_ok_create r6 hj w1 hw hg) r7
          refine br_f h1 (br_t h2 (br_t h ⟨cf_in0 hj, nm_r eu ?_⟩))
          by_cases g : lw_bz v3 = 0
          · exact br_t g (cf_x67 hj (cf_up_gd hj) cf_im_z zL hB (mk 0 g (Or.inl rfl)))
          · have g1 : lw_bz v3 = 1 := (lw_bz_01 v3).resolve_left g
            exact br_f g (cf_x67 hj (cf_up_gd hj) cf_im_z zL hB (mk 1 g1 (Or.inr rfl)))
        · exact br_f h1 (br_t h2 (br_f h (br_f j0 (br_f j5 ⟨ji, br_f yz (br_f h1 (br_t h2 (br_f h ⟨rfl, rfl, rfl, rfl, R⟩)))⟩))))
      · exact br_f h1 (br_f h2 (br_f j0 (br_f j5 ⟨ji, br_f yz (br_f h1 (br_f h2 ⟨rfl, rfl, rfl, rfl, R⟩))⟩)))
    · have s0 : 0 < s := by
        by_cases w0 : s = 0
        · subst w0
          exact absurd (es.trans nI_0) z
        · omega
      have yz : 0 < sz (nI j).toNatClampNeg := by rw [ys, es]; exact nI_lt (a := 0) s0 (by omega)
      exact br_f (fun w => z (xs.symm.trans w)) (br_f j0 (br_f j5 ⟨ji, br_t yz ⟨rfl, rfl, rfl, rfl, R⟩⟩))
