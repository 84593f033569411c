theorem cf_bo {x : Int32} (h : x = 0 ∨ x = 1) : vp_nar .boolean x = x := by
  rcases h with rfl | rfl <;> rfl
theorem cf_stp {i : Nat} {f g : Nat → Int32} (h : i < 2 ^ 31) : upd (cf_mix i f g) (nI i).toNatClampNeg (f (nI i).toNatClampNeg) = cf_mix (i + 1) f g := by
  rw [nI_clamp h]
  exact cf_mix_s
theorem cf_stpB {i : Nat} {f g : Nat → Int32} (h : i < 2 ^ 31) (hb : f i = 0 ∨ f i = 1) : upd (cf_mix i f g) (nI i).toNatClampNeg (vp_nar .boolean (f (nI i).toNatClampNeg)) = cf_mix (i + 1) f g := by
  rw [nI_clamp h, cf_bo hb]
  exact cf_mix_s
theorem cf_mul (a b : Nat) : nI a * nI b = nI (a * b) := (Int32.ofNat_mul a b).symm
theorem cf_ix (j i : Nat) : (16 : Int32) * nI j + nI i = nI (16 * j + i) := by
  show nI 16 * nI j + nI i = _
  rw [cf_mul, nI_add]
theorem cf_ix12 (j o : Nat) : (12 : Int32) + nI j * 16 + nI o = nI (12 + (16 * j + o)) := by
  show nI 12 + nI j * nI 16 + nI o = _
  rw [cf_mul, nI_add, nI_add]
  exact congrArg nI (by omega)
theorem cf_ix0 (j : Nat) : (0 : Int32) + nI j = nI j := Int32.zero_add _
theorem cf_ix6 (j : Nat) : (6 : Int32) + nI j = nI (6 + j) := nI_add 6 j
/-! the component's copies -/
theorem cf_c_lb {post : SX → Prop} {tr vf op : Int32} {S L B : Nat → Int32} (hL : cf_z 109 L) (hB : cf_z 109 B) (hp : post (tr, vf, op, S, L, L)) : wpX_copy__lasting_before post (tr, vf, op, S, L, B) := by
  refine loop_0 (fun n i s => wX_copy__lasting_before_2 post tr vf op n (nI i) S L s) (fun i s => s = cf_mix i L B) 109 B cf_mix_0.symm ?_ ?_
  · intro n s hs
    have e : s = L := Eq.trans hs (cf_mix_e hL hB)
    rw [e]
    exact br_t (nI_le (a := 109) (b := 109) (by decide) (by decide)) hp
  · intro n i s hi hs ih
    have e : s = cf_mix i L B := hs
    rw [e]
    have hv : vp_in (nI i) 109 := vp_in_nI hi (by decide)
    exact br_f (nI_ge (b := 109) hi (by decide)) ⟨hv, hv, nm_r (cf_stp (by omega)) (nm_r (nI_1 i) (ih (cf_mix (i + 1) L B) rfl))⟩
theorem cf_c_sl {post : SX → Prop} {tr vf op : Int32} {S L B : Nat → Int32} (hS : cf_z 109 S) (hL : cf_z 109 L) (hp : post (tr, vf, op, S, S, B)) : wpX_copy__seen_lasting post (tr, vf, op, S, L, B) := by
  refine loop_0 (fun n i s => wX_copy__seen_lasting_2 post tr vf op n (nI i) S s B) (fun i s => s = cf_mix i S L) 109 L cf_mix_0.symm ?_ ?_
  · intro n s hs
    have e : s = S := Eq.trans hs (cf_mix_e hS hL)
    rw [e]
    exact br_t (nI_le (a := 109) (b := 109) (by decide) (by decide)) hp
  · intro n i s hi hs ih
    have e : s = cf_mix i S L := hs
    rw [e]
    have hv : vp_in (nI i) 109 := vp_in_nI hi (by decide)
    exact br_f (nI_ge (b := 109) hi (by decide)) ⟨hv, hv, nm_r (cf_stp (by omega)) (nm_r (nI_1 i) (ih (cf_mix (i + 1) S L) rfl))⟩
theorem cf_c_ls {post : SX → Prop} {tr vf op : Int32} {S L B : Nat → Int32} (hL : cf_z 109 L) (hS : cf_z 109 S) (hp : post (tr, vf, op, L, L, B)) : wpX_copy__lasting_seen post (tr, vf, op, S, L, B) := by
  refine loop_0 (fun n i s => wX_copy__lasting_seen_2 post tr vf op n (nI i) s L B) (fun i s => s = cf_mix i L S) 109 S cf_mix_0.symm ?_ ?_
  · intro n s hs
    have e : s = L := Eq.trans hs (cf_mix_e hL hS)
    rw [e]
    exact br_t (nI_le (a := 109) (b := 109) (by decide) (by decide)) hp
  · intro n i s hi hs ih
    have e : s = cf_mix i L S := hs
    rw [e]
    have hv : vp_in (nI i) 109 := vp_in_nI hi (by decide)
    exact br_f (nI_ge (b := 109) hi (by decide)) ⟨hv, hv, nm_r (cf_stp (by omega)) (nm_r (nI_1 i) (ih (cf_mix (i + 1) L S) rfl))⟩
theorem cf_c_bl {post : SX → Prop} {tr vf op : Int32} {S L B : Nat → Int32} (hB : cf_z 109 B) (hL : cf_z 109 L) (hp : post (tr, vf, op, S, B, B)) : wpX_copy__before_lasting post (tr, vf, op, S, L, B) := by
  refine loop_0 (fun n i s => wX_copy__before_lasting_2 post tr vf op n (nI i) S s B) (fun i s => s = cf_mix i B L) 109 L cf_mix_0.symm ?_ ?_
  · intro n s hs
    have e : s = B := Eq.trans hs (cf_mix_e hB hL)
    rw [e]
    exact br_t (nI_le (a := 109) (b := 109) (by decide) (by decide)) hp
  · intro n i s hi hs ih
    have e : s = cf_mix i B L := hs
    rw [e]
    have hv : vp_in (nI i) 109 := vp_in_nI hi (by decide)
    exact br_f (nI_ge (b := 109) hi (by decide)) ⟨hv, hv, nm_r (cf_stp (by omega)) (nm_r (nI_1 i) (ih (cf_mix (i + 1) B L) rfl))⟩
theorem cf_ml {post : SX → Prop} {tr vf op : Int32} {S L B : Nat → Int32} (hS : cf_z 109 S) (hL : cf_z 109 L) (hB : cf_z 109 B) (hp : post (tr, vf, op, S, S, L)) : wpX_makeLasting post (tr, vf, op, S, L, B) := by
  unfold wpX_makeLasting
  dsimp only
  refine cf_c_lb hL hB ?_
  dsimp only
  refine cf_c_sl hS hL ?_
  exact hp
theorem cf_fg {post : SX → Prop} {tr vf op : Int32} {S L B : Nat → Int32} (hS : cf_z 109 S) (hL : cf_z 109 L) (hp : post (tr, vf, 0, L, L, B)) : wpX_forgetTransaction post (tr, vf, op, S, L, B) := by
  unfold wpX_forgetTransaction
  dsimp only
  refine cf_c_ls hL hS ?_
  exact hp
theorem cf_pw {post : SX → Prop} {tr vf op : Int32} {S L B : Nat → Int32} (hS : cf_z 109 S) (hL : cf_z 109 L) (hB : cf_z 109 B) (hp : post (tr, 0, 0, L, L, L)) : wpX_power post (tr, vf, op, S, L, B) := by
  unfold wpX_power
  dsimp only
  refine cf_fg hS hL ?_
  dsimp only
  refine cf_c_lb hL hB ?_
  exact hp
/-! the reference's loops -/
theorem cf_keep40 {post : SY → Prop} {cd tr vf op ch oc : Int32} {sz gd bs sn os og ob : Nat → Int32} (h1 : cf_z 96 bs) (h2 : cf_z 96 ob) (hp : post (cd, tr, vf, op, 1, cd, sz, gd, bs, sn, os, og, bs)) : ∃ n : Nat, wY_keep_40 post cd tr vf op ch oc n 0 sz gd bs sn os og ob := by
  refine loop_0 (fun n i s => wY_keep_40 post cd tr vf op ch oc n (nI i) sz gd bs sn os og s) (fun i s => s = cf_mix i bs ob) 96 ob cf_mix_0.symm ?_ ?_
  · intro n s hs
    have e : s = bs := Eq.trans hs (cf_mix_e h1 h2)
    rw [e]
    exact br_t (nI_le (a := 96) (b := 96) (by decide) (by decide)) hp
  · intro n i s hi hs ih
    have e : s = cf_mix i bs ob := hs
    rw [e]
    have hv : vp_in (nI i) 96 := vp_in_nI hi (by decide)
    exact br_f (nI_ge (b := 96) hi (by decide)) ⟨hv, hv, nm_r (cf_stp (by omega)) (nm_r (nI_1 i) (ih (cf_mix (i + 1) bs ob) rfl))⟩
theorem cf_keep {post : SY → Prop} {cd tr vf op ch oc : Int32} {sz gd bs sn os og ob : Nat → Int32} (hk : cf_ok sz gd bs) (h1 : cf_z 6 os) (h2 : cf_z 6 og) (h3 : cf_z 96 ob) (hp : post (cd, tr, vf, op, 1, cd, sz, gd, bs, sn, sz, gd, bs)) : wpY_keep post (cd, tr, vf, op, ch, oc, sz, gd, bs, sn, os, og, ob) := by
  obtain ⟨_, kb, _, kd, ke, kf⟩ := hk
  refine loop_0 (fun n i (s : (Nat → Int32) × (Nat → Int32)) => wY_keep_2 post cd tr vf op ch oc n (nI i) sz gd bs sn s.1 s.2 ob) (fun i s => s = (cf_mix i sz os, cf_mix i gd og)) 6 (os, og) ?_ ?_ ?_
  · show (os, og) = _
    rw [cf_mix_0, cf_mix_0]
  · intro n s hs
    have e : s = (sz, gd) := Eq.trans hs (by rw [cf_mix_e kd h1, cf_mix_e ke h2])
    rw [e]
    exact br_t (nI_le (a := 6) (b := 6) (by decide) (by decide)) (cf_keep40 kf h3 hp)
  · intro n i s hi hs ih
    have e : s = (cf_mix i sz os, cf_mix i gd og) := hs
    rw [e]
    have hv : vp_in (nI i) 6 := vp_in_nI hi (by decide)
    exact br_f (nI_ge (b := 6) hi (by decide)) ⟨hv, hv, nm_r (cf_stp (by omega)) ⟨hv, hv, nm_r (cf_stpB (by omega) (kb i)) (nm_r (nI_1 i) (ih (cf_mix (i + 1) sz os, cf_mix (i + 1) gd og) rfl))⟩⟩
theorem cf_zero {post : Int32 → SY → Prop} {cd tr vf op ch oc : Int32} {sz gd bs sn os og ob : Nat → Int32} {j : Nat} (hj : j < 6) (hb : ∀ i, i < 16 → bs (16 * j + i) = 0) (hp : post 0 (cd, tr, vf, op, ch, oc, sz, gd, bs, sn, os, og, ob)) : ∃ n : Nat, wY_create_62 post (nI j) cd tr vf op ch oc n 0 sz gd bs sn os og ob := by
  refine loop_0 (fun n i s => wY_create_62 post (nI j) cd tr vf op ch oc n (nI i) sz gd s sn os og ob) (fun _ s => s = bs) 16 bs rfl ?_ ?_
  · intro n s hs
    have e : s = bs := hs
    rw [e]
    exact br_t (nI_le (a := 16) (b := 16) (by decide) (by decide)) hp
  · intro n i s hi hs ih
    have e : s = bs := hs
    rw [e]
    have hx : (16 : Int32) * nI j + nI i = nI (16 * j + i) := cf_ix j i
    have hv : vp_in ((16 : Int32) * nI j + nI i) 96 := by rw [hx]; exact vp_in_nI (by omega) (by decide)
    have hu : upd bs ((16 : Int32) * nI j + nI i).toNatClampNeg 0 = bs := by
      rw [hx, nI_clamp (by omega)]
      exact cf_usame (hb i hi)
    exact br_f (nI_ge (b := 16) hi (by decide)) ⟨hv, nm_r hu (nm_r (nI_1 i) (ih bs rfl))⟩
theorem cf_begin17 {post : Int32 → SY → Prop} {cd tr vf op ch oc : Int32} {sz gd bs sn os og ob : Nat → Int32} (h1 : cf_z 96 bs) (h2 : cf_z 96 sn) (hp : post 0 (cd, tr, vf, op, ch, oc, sz, gd, bs, bs, os, og, ob)) : ∃ n : Nat, wY_begin_17 post cd tr vf op ch oc n 0 sz gd bs sn os og ob := by
  refine loop_0 (fun n i s => wY_begin_17 post cd tr vf op ch oc n (nI i) sz gd bs s os og ob) (fun i s => s = cf_mix i bs sn) 96 sn cf_mix_0.symm ?_ ?_
  · intro n s hs
    have e : s = bs := Eq.trans hs (cf_mix_e h1 h2)
    rw [e]
    exact br_t (nI_le (a := 96) (b := 96) (by decide) (by decide)) hp
  · intro n i s hi hs ih
    have e : s = cf_mix i bs sn := hs
    rw [e]
    have hv : vp_in (nI i) 96 := vp_in_nI hi (by decide)
    exact br_f (nI_ge (b := 96) hi (by decide)) ⟨hv, hv, nm_r (cf_stp (by omega)) (nm_r (nI_1 i) (ih (cf_mix (i + 1) bs sn) rfl))⟩
theorem cf_commit16 {post : Int32 → SY → Prop} {cd tr vf op ch oc : Int32} {sz gd bs sn os og ob : Nat → Int32} (h1 : cf_z 96 sn) (h2 : cf_z 96 bs) (hp : post 0 (cd, tr, vf, 0, ch, oc, sz, gd, sn, sn, os, og, ob)) : ∃ n : Nat, wY_commit_16 post cd tr vf op ch oc n 0 sz gd bs sn os og ob := by
  refine loop_0 (fun n i s => wY_commit_16 post cd tr vf op ch oc n (nI i) sz gd s sn os og ob) (fun i s => s = cf_mix i sn bs) 96 bs cf_mix_0.symm ?_ ?_
  · intro n s hs
    have e : s = sn := Eq.trans hs (cf_mix_e h1 h2)
    rw [e]
    exact br_t (nI_le (a := 96) (b := 96) (by decide) (by decide)) hp
  · intro n i s hi hs ih
    have e : s = cf_mix i sn bs := hs
    rw [e]
    have hv : vp_in (nI i) 96 := vp_in_nI hi (by decide)
    exact br_f (nI_ge (b := 96) hi (by decide)) ⟨hv, hv, nm_r (cf_stp (by omega)) (nm_r (nI_1 i) (ih (cf_mix (i + 1) sn bs) rfl))⟩
theorem cf_torn83 {post : SY → Prop} {cd tr vf op ch oc : Int32} {sz gd bs sn os og ob : Nat → Int32} (hp : post (cd, tr, 0, 0, 0, oc, sz, gd, bs, sn, os, og, ob)) : wY_torn_83 post cd tr vf op ch oc sz gd bs sn os og ob := by
  unfold wY_torn_83 wpY_power
  exact hp
theorem cf_torn51 {post : SY → Prop} {cd tr vf op ch oc : Int32} {sz gd bs sn os og ob : Nat → Int32} (h1 : cf_z 96 ob) (h2 : cf_z 96 bs) (hp : post (oc, tr, 0, 0, 0, oc, sz, gd, ob, sn, os, og, ob)) : ∃ n : Nat, wY_torn_51 post cd tr vf op ch oc n 0 sz gd bs sn os og ob := by
  refine loop_0 (fun n i s => wY_torn_51 post cd tr vf op ch oc n (nI i) sz gd s sn os og ob) (fun i s => s = cf_mix i ob bs) 96 bs cf_mix_0.symm ?_ ?_
  · intro n s hs
    have e : s = ob := Eq.trans hs (cf_mix_e h1 h2)
    rw [e]
    exact br_t (nI_le (a := 96) (b := 96) (by decide) (by decide)) (cf_torn83 hp)
  · intro n i s hi hs ih
    have e : s = cf_mix i ob bs := hs
    rw [e]
    have hv : vp_in (nI i) 96 := vp_in_nI hi (by decide)
    exact br_f (nI_ge (b := 96) hi (by decide)) ⟨hv, hv, nm_r (cf_stp (by omega)) (nm_r (nI_1 i) (ih (cf_mix (i + 1) ob bs) rfl))⟩
theorem cf_torn13 {post : SY → Prop} {cd tr vf op ch oc : Int32} {sz gd bs sn os og ob : Nat → Int32} (hk : cf_ok os og ob) (h1 : cf_z 6 sz) (h2 : cf_z 6 gd) (h3 : cf_z 96 bs) (hp : post (oc, tr, 0, 0, 0, oc, os, og, ob, sn, os, og, ob)) : ∃ n : Nat, wY_torn_13 post cd tr vf op ch oc n 0 sz gd bs sn os og ob := by
  obtain ⟨_, kb, _, kd, ke, kf⟩ := hk
  refine loop_0 (fun n i (s : (Nat → Int32) × (Nat → Int32)) => wY_torn_13 post cd tr vf op ch oc n (nI i) s.1 s.2 bs sn os og ob) (fun i s => s = (cf_mix i os sz, cf_mix i og gd)) 6 (sz, gd) ?_ ?_ ?_
  · show (sz, gd) = _
    rw [cf_mix_0, cf_mix_0]
  · intro n s hs
    have e : s = (os, og) := Eq.trans hs (by rw [cf_mix_e kd h1, cf_mix_e ke h2])
    rw [e]
    exact br_t (nI_le (a := 6) (b := 6) (by decide) (by decide)) (cf_torn51 kf h3 hp)
  · intro n i s hi hs ih
    have e : s = (cf_mix i os sz, cf_mix i og gd) := hs
    rw [e]
    have hv : vp_in (nI i) 6 := vp_in_nI hi (by decide)
    exact br_f (nI_ge (b := 6) hi (by decide)) ⟨hv, hv, nm_r (cf_stp (by omega)) ⟨hv, hv, nm_r (cf_stpB (by omega) (kb i)) (nm_r (nI_1 i) (ih (cf_mix (i + 1) os sz, cf_mix (i + 1) og gd) rfl))⟩⟩
