section
/-- the picture that the component keeps of sizes, guards, bytes and code: one array of 109 cells -/
def cf_im (sz gd bs : Nat → Int32) (cd : Int32) : Nat → Int32 := fun j => if j < 6 then sz j else if j < 12 then gd (j - 6) else if j < 108 then bs (j - 12) else if j = 108 then cd else 0
/-- beyond its length an array's picture is 0 -/
def cf_z (n : Nat) (f : Nat → Int32) : Prop := ∀ j, n ≤ j → f j = 0
/-- sizes from 0 to 16, guards 0 or 1, the bytes of a file that is not there 0, nothing beyond the lengths -/
def cf_ok (sz gd bs : Nat → Int32) : Prop := (∀ j, j < 6 → ∃ s : Nat, s ≤ 16 ∧ sz j = nI s) ∧ (∀ j, gd j = 0 ∨ gd j = 1) ∧ (∀ j, j < 6 → sz j = 0 → ∀ i, i < 16 → bs (16 * j + i) = 0) ∧ cf_z 6 sz ∧ cf_z 6 gd ∧ cf_z 96 bs
theorem cf_us {f : Nat → Int32} {k : Nat} {x : Int32} : upd f k x k = x := if_pos rfl
theorem cf_un {f : Nat → Int32} {k j : Nat} {x : Int32} (h : j ≠ k) : upd f k x j = f j := if_neg h
theorem cf_usame {f : Nat → Int32} {k : Nat} {x : Int32} (h : f k = x) : upd f k x = f := by
  funext j
  by_cases e : j = k
  · subst e; rw [cf_us, h]
  · rw [cf_un e]
theorem cf_im_z {sz gd bs : Nat → Int32} {cd : Int32} : cf_z 109 (cf_im sz gd bs cd) := by
  intro j h
  dsimp only [cf_im]
  rw [if_neg (by omega), if_neg (by omega), if_neg (by omega), if_neg (by omega)]
theorem cf_im_sz {sz gd bs : Nat → Int32} {cd : Int32} {j : Nat} (h : j < 6) : cf_im sz gd bs cd j = sz j := by
  dsimp only [cf_im]
  rw [if_pos h]
theorem cf_im_gd {sz gd bs : Nat → Int32} {cd : Int32} {j : Nat} (h : j < 6) : cf_im sz gd bs cd (6 + j) = gd j := by
  dsimp only [cf_im]
  rw [if_neg (by omega), if_pos (by omega), Nat.add_sub_cancel_left]
theorem cf_im_bs {sz gd bs : Nat → Int32} {cd : Int32} {j : Nat} (h : j < 96) : cf_im sz gd bs cd (12 + j) = bs j := by
  dsimp only [cf_im]
  rw [if_neg (by omega), if_neg (by omega), if_pos (by omega), Nat.add_sub_cancel_left]
theorem cf_im_cd {sz gd bs : Nat → Int32} {cd : Int32} : cf_im sz gd bs cd 108 = cd := by
  dsimp only [cf_im]
  rw [if_neg (by omega), if_neg (by omega), if_neg (by omega), if_pos rfl]
theorem cf_up_sz {sz gd bs : Nat → Int32} {cd x : Int32} {j : Nat} (h : j < 6) : upd (cf_im sz gd bs cd) j x = cf_im (upd sz j x) gd bs cd := by
  funext i
  dsimp only [upd, cf_im]
  by_cases e : i = j
  · subst e
    rw [if_pos rfl, if_pos h, if_pos rfl]
  · rw [if_neg e]
    by_cases a : i < 6
    · rw [if_pos a, if_pos a, if_neg e]
    · rw [if_neg a, if_neg a]
theorem cf_up_gd {sz gd bs : Nat → Int32} {cd x : Int32} {j : Nat} (h : j < 6) : upd (cf_im sz gd bs cd) (6 + j) x = cf_im sz (upd gd j x) bs cd := by
  funext i
  dsimp only [upd, cf_im]
  by_cases e : i = 6 + j
  · subst e
    rw [if_pos rfl, if_neg (by omega), if_pos (by omega), if_pos (by omega)]
  · rw [if_neg e]
    by_cases a : i < 6
    · rw [if_pos a, if_pos a]
    · rw [if_neg a, if_neg a]
      by_cases b : i < 12
      · rw [if_pos b, if_pos b, if_neg (by omega)]
      · rw [if_neg b, if_neg b]
theorem cf_up_bs {sz gd bs : Nat → Int32} {cd x : Int32} {j : Nat} (h : j < 96) : upd (cf_im sz gd bs cd) (12 + j) x = cf_im sz gd (upd bs j x) cd := by
  funext i
  dsimp only [upd, cf_im]
  by_cases e : i = 12 + j
  · subst e
    rw [if_pos rfl, if_neg (by omega), if_neg (by omega), if_pos (by omega), if_pos (by omega)]
  · rw [if_neg e]
    by_cases a : i < 6
    · rw [if_pos a, if_pos a]
    · rw [if_neg a, if_neg a]
      by_cases b : i < 12
      · rw [if_pos b, if_pos b]
      · rw [if_neg b, if_neg b]
        by_cases c : i < 108
        · rw [if_pos c, if_pos c, if_neg (by omega)]
        · rw [if_neg c, if_neg c]
theorem cf_up_cd {sz gd bs : Nat → Int32} {cd x : Int32} : upd (cf_im sz gd bs cd) 108 x = cf_im sz gd bs x := by
  funext i
  dsimp only [upd, cf_im]
  by_cases e : i = 108
  · subst e
    rw [if_pos rfl, if_neg (by omega), if_neg (by omega), if_neg (by omega), if_pos rfl]
  · rw [if_neg e, if_neg e, if_neg e]
/-- the first i cells are f's, the others g's -/
def cf_mix (i : Nat) (f g : Nat → Int32) : Nat → Int32 := fun j => if j < i then f j else g j
theorem cf_mix_0 {f g : Nat → Int32} : cf_mix 0 f g = g := by
  funext j
  exact if_neg (Nat.not_lt_zero j)
theorem cf_mix_s {i : Nat} {f g : Nat → Int32} : upd (cf_mix i f g) i (f i) = cf_mix (i + 1) f g := by
  funext j
  dsimp only [upd, cf_mix]
  by_cases e : j = i
  · subst e
    rw [if_pos rfl, if_pos (by omega)]
  · rw [if_neg e]
    by_cases a : j < i
    · rw [if_pos a, if_pos (by omega)]
    · rw [if_neg a, if_neg (by omega)]
theorem cf_mix_e {n : Nat} {f g : Nat → Int32} (hf : cf_z n f) (hg : cf_z n g) : cf_mix n f g = f := by
  funext j
  dsimp only [cf_mix]
  by_cases a : j < n
  · rw [if_pos a]
  · rw [if_neg a, hf j (by omega), hg j (by omega)]
theorem cf_z_upd {n k : Nat} {f : Nat → Int32} {x : Int32} (h : cf_z n f) (hk : k < n) : cf_z n (upd f k x) := by
  intro j hj
  rw [cf_un (by omega)]
  exact h j hj
theorem cf_z_0 {n : Nat} : cf_z n (fun _ => 0) := fun _ _ => rfl
theorem cf_ok_0 : cf_ok (fun _ => 0) (fun _ => 0) (fun _ => 0) :=
  ⟨fun _ _ => ⟨0, Nat.zero_le _, nI_0.symm⟩, fun _ => Or.inl rfl, fun _ _ _ _ _ => rfl, cf_z_0, cf_z_0, cf_z_0⟩
/-- a file is made -/
theorem cf_ok_create {sz gd bs : Nat → Int32} (h : cf_ok sz gd bs) {j s : Nat} {g : Int32} (hj : j < 6) (h1 : 1 ≤ s) (h2 : s ≤ 16) (hg : g = 0 ∨ g = 1) : cf_ok (upd sz j (nI s)) (upd gd j g) bs := by
  obtain ⟨a, b, c, d, e, f⟩ := h
  refine ⟨?_, ?_, ?_, cf_z_upd d hj, cf_z_upd e hj, f⟩
  · intro q hq
    by_cases z : q = j
    · subst z; rw [cf_us]; exact ⟨s, h2, rfl⟩
    · rw [cf_un z]; exact a q hq
  · intro q
    by_cases z : q = j
    · subst z; rw [cf_us]; exact hg
    · rw [cf_un z]; exact b q
  · intro q hq hz
    by_cases z : q = j
    · subst z
      rw [cf_us] at hz
      exact absurd hz (nI_ne0 (by omega) (by omega))
    · rw [cf_un z] at hz; exact c q hq hz
/-- a byte of a file that is there is written -/
theorem cf_ok_update {sz gd bs : Nat → Int32} (h : cf_ok sz gd bs) {j o : Nat} {x : Int32} (hj : j < 6) (ho : o < 16) (hs : sz j ≠ 0) : cf_ok sz gd (upd bs (16 * j + o) x) := by
  obtain ⟨a, b, c, d, e, f⟩ := h
  refine ⟨a, b, ?_, d, e, cf_z_upd f (by omega)⟩
  intro q hq hz i hi
  have z : q ≠ j := fun w => hs (w ▸ hz)
  rw [cf_un (by omega)]
  exact c q hq hz i hi
end
section
theorem cf_bo {x : Int32} (h : x = 0 ∨ x = 1) : vp_nar .boolean x = x := by
  rcases h with rfl | rfl <;> rfl
theorem cf_stp {i : Nat} {f g : Nat → Int32} (h : i < 2 ^ 31) : upd (cf_mix i f g) (nI i).toNatClampNeg (f (nI i).toNatClampNeg) = cf_mix (i + 1) f g := by
  rw [nI_clamp h]
  exact cf_mix_s
theorem cf_stpB {i : Nat} {f g : Nat → Int32} (h : i < 2 ^ 31) (hb : f i = 0 ∨ f i = 1) : upd (cf_mix i f g) (nI i).toNatClampNeg (vp_nar .boolean (f (nI i).toNatClampNeg)) = cf_mix (i + 1) f g := by
  rw [nI_clamp h, cf_bo hb]
  exact cf_mix_s
theorem cf_mul (a b : Nat) : nI a * nI b = nI (a * b) := (Int32.ofNat_mul a b).symm
theorem cf_ix (j i : Nat) : (16 : Int32) * nI j + nI i = nI (16 * j + i) := by
  show nI 16 * nI j + nI i = _
  rw [cf_mul, nI_add]
theorem cf_ix12 (j o : Nat) : (12 : Int32) + nI j * 16 + nI o = nI (12 + (16 * j + o)) := by
  show nI 12 + nI j * nI 16 + nI o = _
  rw [cf_mul, nI_add, nI_add]
  exact congrArg nI (by omega)
theorem cf_ix0 (j : Nat) : (0 : Int32) + nI j = nI j := Int32.zero_add _
theorem cf_ix6 (j : Nat) : (6 : Int32) + nI j = nI (6 + j) := nI_add 6 j
/-! the component's copies -/
theorem cf_c_lb {post : SX → Prop} {tr vf op : Int32} {S L B : Nat → Int32} (hL : cf_z 109 L) (hB : cf_z 109 B) (hp : post (tr, vf, op, S, L, L)) : wpX_copy__lasting_before post (tr, vf, op, S, L, B) := by
  refine loop_0 (fun n i s => wX_copy__lasting_before_2 post tr vf op n (nI i) S L s) (fun i s => s = cf_mix i L B) 109 B cf_mix_0.symm ?_ ?_
  · intro n s hs
    have e : s = L := Eq.trans hs (cf_mix_e hL hB)
    rw [e]
    exact br_t (nI_le (a := 109) (b := 109) (by decide) (by decide)) hp
  · intro n i s hi hs ih
    have e : s = cf_mix i L B := hs
    rw [e]
    have hv : vp_in (nI i) 109 := vp_in_nI hi (by decide)
    exact br_f (nI_ge (b := 109) hi (by decide)) ⟨hv, hv, nm_r (cf_stp (by omega)) (nm_r (nI_1 i) (ih (cf_mix (i + 1) L B) rfl))⟩
theorem cf_c_sl {post : SX → Prop} {tr vf op : Int32} {S L B : Nat → Int32} (hS : cf_z 109 S) (hL : cf_z 109 L) (hp : post (tr, vf, op, S, S, B)) : wpX_copy__seen_lasting post (tr, vf, op, S, L, B) := by
  refine loop_0 (fun n i s => wX_copy__seen_lasting_2 post tr vf op n (nI i) S s B) (fun i s => s = cf_mix i S L) 109 L cf_mix_0.symm ?_ ?_
  · intro n s hs
    have e : s = S := Eq.trans hs (cf_mix_e hS hL)
    rw [e]
    exact br_t (nI_le (a := 109) (b := 109) (by decide) (by decide)) hp
  · intro n i s hi hs ih
    have e : s = cf_mix i S L := hs
    rw [e]
    have hv : vp_in (nI i) 109 := vp_in_nI hi (by decide)
    exact br_f (nI_ge (b := 109) hi (by decide)) ⟨hv, hv, nm_r (cf_stp (by omega)) (nm_r (nI_1 i) (ih (cf_mix (i + 1) S L) rfl))⟩
theorem cf_c_ls {post : SX → Prop} {tr vf op : Int32} {S L B : Nat → Int32} (hL : cf_z 109 L) (hS : cf_z 109 S) (hp : post (tr, vf, op, L, L, B)) : wpX_copy__lasting_seen post (tr, vf, op, S, L, B) := by
  refine loop_0 (fun n i s => wX_copy__lasting_seen_2 post tr vf op n (nI i) s L B) (fun i s => s = cf_mix i L S) 109 S cf_mix_0.symm ?_ ?_
  · intro n s hs
    have e : s = L := Eq.trans hs (cf_mix_e hL hS)
    rw [e]
    exact br_t (nI_le (a := 109) (b := 109) (by decide) (by decide)) hp
  · intro n i s hi hs ih
    have e : s = cf_mix i L S := hs
    rw [e]
    have hv : vp_in (nI i) 109 := vp_in_nI hi (by decide)
    exact br_f (nI_ge (b := 109) hi (by decide)) ⟨hv, hv, nm_r (cf_stp (by omega)) (nm_r (nI_1 i) (ih (cf_mix (i + 1) L S) rfl))⟩
theorem cf_c_bl {post : SX → Prop} {tr vf op : Int32} {S L B : Nat → Int32} (hB : cf_z 109 B) (hL : cf_z 109 L) (hp : post (tr, vf, op, S, B, B)) : wpX_copy__before_lasting post (tr, vf, op, S, L, B) := by
  refine loop_0 (fun n i s => wX_copy__before_lasting_2 post tr vf op n (nI i) S s B) (fun i s => s = cf_mix i B L) 109 L cf_mix_0.symm ?_ ?_
  · intro n s hs
    have e : s = B := Eq.trans hs (cf_mix_e hB hL)
    rw [e]
    exact br_t (nI_le (a := 109) (b := 109) (by decide) (by decide)) hp
  · intro n i s hi hs ih
    have e : s = cf_mix i B L := hs
    rw [e]
    have hv : vp_in (nI i) 109 := vp_in_nI hi (by decide)
    exact br_f (nI_ge (b := 109) hi (by decide)) ⟨hv, hv, nm_r (cf_stp (by omega)) (nm_r (nI_1 i) (ih (cf_mix (i + 1) B L) rfl))⟩
theorem cf_ml {post : SX → Prop} {tr vf op : Int32} {S L B : Nat → Int32} (hS : cf_z 109 S) (hL : cf_z 109 L) (hB : cf_z 109 B) (hp : post (tr, vf, op, S, S, L)) : wpX_makeLasting post (tr, vf, op, S, L, B) := by
  unfold wpX_makeLasting
  dsimp only
  refine cf_c_lb hL hB ?_
  dsimp only
  refine cf_c_sl hS hL ?_
  exact hp
theorem cf_fg {post : SX → Prop} {tr vf op : Int32} {S L B : Nat → Int32} (hS : cf_z 109 S) (hL : cf_z 109 L) (hp : post (tr, vf, 0, L, L, B)) : wpX_forgetTransaction post (tr, vf, op, S, L, B) := by
  unfold wpX_forgetTransaction
  dsimp only
  refine cf_c_ls hL hS ?_
  exact hp
theorem cf_pw {post : SX → Prop} {tr vf op : Int32} {S L B : Nat → Int32} (hS : cf_z 109 S) (hL : cf_z 109 L) (hB : cf_z 109 B) (hp : post (tr, 0, 0, L, L, L)) : wpX_power post (tr, vf, op, S, L, B) := by
  unfold wpX_power
  dsimp only
  refine cf_fg hS hL ?_
  dsimp only
  refine cf_c_lb hL hB ?_
  exact hp
/-! the reference's loops -/
theorem cf_keep40 {post : SY → Prop} {cd tr vf op ch oc : Int32} {sz gd bs sn os og ob : Nat → Int32} (h1 : cf_z 96 bs) (h2 : cf_z 96 ob) (hp : post (cd, tr, vf, op, 1, cd, sz, gd, bs, sn, os, og, bs)) : ∃ n : Nat, wY_keep_40 post cd tr vf op ch oc n 0 sz gd bs sn os og ob := by
  refine loop_0 (fun n i s => wY_keep_40 post cd tr vf op ch oc n (nI i) sz gd bs sn os og s) (fun i s => s = cf_mix i bs ob) 96 ob cf_mix_0.symm ?_ ?_
  · intro n s hs
    have e : s = bs := Eq.trans hs (cf_mix_e h1 h2)
    rw [e]
    exact br_t (nI_le (a := 96) (b := 96) (by decide) (by decide)) hp
  · intro n i s hi hs ih
    have e : s = cf_mix i bs ob := hs
    rw [e]
    have hv : vp_in (nI i) 96 := vp_in_nI hi (by decide)
    exact br_f (nI_ge (b := 96) hi (by decide)) ⟨hv, hv, nm_r (cf_stp (by omega)) (nm_r (nI_1 i) (ih (cf_mix (i + 1) bs ob) rfl))⟩
theorem cf_keep {post : SY → Prop} {cd tr vf op ch oc : Int32} {sz gd bs sn os og ob : Nat → Int32} (hk : cf_ok sz gd bs) (h1 : cf_z 6 os) (h2 : cf_z 6 og) (h3 : cf_z 96 ob) (hp : post (cd, tr, vf, op, 1, cd, sz, gd, bs, sn, sz, gd, bs)) : wpY_keep post (cd, tr, vf, op, ch, oc, sz, gd, bs, sn, os, og, ob) := by
  obtain ⟨_, kb, _, kd, ke, kf⟩ := hk
  refine loop_0 (fun n i (s : (Nat → Int32) × (Nat → Int32)) => wY_keep_2 post cd tr vf op ch oc n (nI i) sz gd bs sn s.1 s.2 ob) (fun i s => s = (cf_mix i sz os, cf_mix i gd og)) 6 (os, og) ?_ ?_ ?_
  · show (os, og) = _
    rw [cf_mix_0, cf_mix_0]
  · intro n s hs
    have e : s = (sz, gd) := Eq.trans hs (by rw [cf_mix_e kd h1, cf_mix_e ke h2])
    rw [e]
    exact br_t (nI_le (a := 6) (b := 6) (by decide) (by decide)) (cf_keep40 kf h3 hp)
  · intro n i s hi hs ih
    have e : s = (cf_mix i sz os, cf_mix i gd og) := hs
    rw [e]
    have hv : vp_in (nI i) 6 := vp_in_nI hi (by decide)
    exact br_f (nI_ge (b := 6) hi (by decide)) ⟨hv, hv, nm_r (cf_stp (by omega)) ⟨hv, hv, nm_r (cf_stpB (by omega) (kb i)) (nm_r (nI_1 i) (ih (cf_mix (i + 1) sz os, cf_mix (i + 1) gd og) rfl))⟩⟩
theorem cf_zero {post : Int32 → SY → Prop} {cd tr vf op ch oc : Int32} {sz gd bs sn os og ob : Nat → Int32} {j : Nat} (hj : j < 6) (hb : ∀ i, i < 16 → bs (16 * j + i) = 0) (hp : post 0 (cd, tr, vf, op, ch, oc, sz, gd, bs, sn, os, og, ob)) : ∃ n : Nat, wY_create_62 post (nI j) cd tr vf op ch oc n 0 sz gd bs sn os og ob := by
  refine loop_0 (fun n i s => wY_create_62 post (nI j) cd tr vf op ch oc n (nI i) sz gd s sn os og ob) (fun _ s => s = bs) 16 bs rfl ?_ ?_
  · intro n s hs
    have e : s = bs := hs
    rw [e]
    exact br_t (nI_le (a := 16) (b := 16) (by decide) (by decide)) hp
  · intro n i s hi hs ih
    have e : s = bs := hs
    rw [e]
    have hx : (16 : Int32) * nI j + nI i = nI (16 * j + i) := cf_ix j i
    have hv : vp_in ((16 : Int32) * nI j + nI i) 96 := by rw [hx]; exact vp_in_nI (by omega) (by decide)
    have hu : upd bs ((16 : Int32) * nI j + nI i).toNatClampNeg 0 = bs := by
      rw [hx, nI_clamp (by omega)]
      exact cf_usame (hb i hi)
    exact br_f (nI_ge (b := 16) hi (by decide)) ⟨hv, nm_r hu (nm_r (nI_1 i) (ih bs rfl))⟩
theorem cf_begin17 {post : Int32 → SY → Prop} {cd tr vf op ch oc : Int32} {sz gd bs sn os og ob : Nat → Int32} (h1 : cf_z 96 bs) (h2 : cf_z 96 sn) (hp : post 0 (cd, tr, vf, op, ch, oc, sz, gd, bs, bs, os, og, ob)) : ∃ n : Nat, wY_begin_17 post cd tr vf op ch oc n 0 sz gd bs sn os og ob := by
  refine loop_0 (fun n i s => wY_begin_17 post cd tr vf op ch oc n (nI i) sz gd bs s os og ob) (fun i s => s = cf_mix i bs sn) 96 sn cf_mix_0.symm ?_ ?_
  · intro n s hs
    have e : s = bs := Eq.trans hs (cf_mix_e h1 h2)
    rw [e]
    exact br_t (nI_le (a := 96) (b := 96) (by decide) (by decide)) hp
  · intro n i s hi hs ih
    have e : s = cf_mix i bs sn := hs
    rw [e]
    have hv : vp_in (nI i) 96 := vp_in_nI hi (by decide)
    exact br_f (nI_ge (b := 96) hi (by decide)) ⟨hv, hv, nm_r (cf_stp (by omega)) (nm_r (nI_1 i) (ih (cf_mix (i + 1) bs sn) rfl))⟩
theorem cf_commit16 {post : Int32 → SY → Prop} {cd tr vf op ch oc : Int32} {sz gd bs sn os og ob : Nat → Int32} (h1 : cf_z 96 sn) (h2 : cf_z 96 bs) (hp : post 0 (cd, tr, vf, 0, ch, oc, sz, gd, sn, sn, os, og, ob)) : ∃ n : Nat, wY_commit_16 post cd tr vf op ch oc n 0 sz gd bs sn os og ob := by
  refine loop_0 (fun n i s => wY_commit_16 post cd tr vf op ch oc n (nI i) sz gd s sn os og ob) (fun i s => s = cf_mix i sn bs) 96 bs cf_mix_0.symm ?_ ?_
  · intro n s hs
    have e : s = sn := Eq.trans hs (cf_mix_e h1 h2)
    rw [e]
    exact br_t (nI_le (a := 96) (b := 96) (by decide) (by decide)) hp
  · intro n i s hi hs ih
    have e : s = cf_mix i sn bs := hs
    rw [e]
    have hv : vp_in (nI i) 96 := vp_in_nI hi (by decide)
    exact br_f (nI_ge (b := 96) hi (by decide)) ⟨hv, hv, nm_r (cf_stp (by omega)) (nm_r (nI_1 i) (ih (cf_mix (i + 1) sn bs) rfl))⟩
theorem cf_torn83 {post : SY → Prop} {cd tr vf op ch oc : Int32} {sz gd bs sn os og ob : Nat → Int32} (hp : post (cd, tr, 0, 0, 0, oc, sz, gd, bs, sn, os, og, ob)) : wY_torn_83 post cd tr vf op ch oc sz gd bs sn os og ob := by
  unfold wY_torn_83 wpY_power
  exact hp
theorem cf_torn51 {post : SY → Prop} {cd tr vf op ch oc : Int32} {sz gd bs sn os og ob : Nat → Int32} (h1 : cf_z 96 ob) (h2 : cf_z 96 bs) (hp : post (oc, tr, 0, 0, 0, oc, sz, gd, ob, sn, os, og, ob)) : ∃ n : Nat, wY_torn_51 post cd tr vf op ch oc n 0 sz gd bs sn os og ob := by
  refine loop_0 (fun n i s => wY_torn_51 post cd tr vf op ch oc n (nI i) sz gd s sn os og ob) (fun i s => s = cf_mix i ob bs) 96 bs cf_mix_0.symm ?_ ?_
  · intro n s hs
    have e : s = ob := Eq.trans hs (cf_mix_e h1 h2)
    rw [e]
    exact br_t (nI_le (a := 96) (b := 96) (by decide) (by decide)) (cf_torn83 hp)
  · intro n i s hi hs ih
    have e : s = cf_mix i ob bs := hs
    rw [e]
    have hv : vp_in (nI i) 96 := vp_in_nI hi (by decide)
    exact br_f (nI_ge (b := 96) hi (by decide)) ⟨hv, hv, nm_r (cf_stp (by omega)) (nm_r (nI_1 i) (ih (cf_mix (i + 1) ob bs) rfl))⟩
theorem cf_torn13 {post : SY → Prop} {cd tr vf op ch oc : Int32} {sz gd bs sn os og ob : Nat → Int32} (hk : cf_ok os og ob) (h1 : cf_z 6 sz) (h2 : cf_z 6 gd) (h3 : cf_z 96 bs) (hp : post (oc, tr, 0, 0, 0, oc, os, og, ob, sn, os, og, ob)) : ∃ n : Nat, wY_torn_13 post cd tr vf op ch oc n 0 sz gd bs sn os og ob := by
  obtain ⟨_, kb, _, kd, ke, kf⟩ := hk
  refine loop_0 (fun n i (s : (Nat → Int32) × (Nat → Int32)) => wY_torn_13 post cd tr vf op ch oc n (nI i) s.1 s.2 bs sn os og ob) (fun i s => s = (cf_mix i os sz, cf_mix i og gd)) 6 (sz, gd) ?_ ?_ ?_
  · show (sz, gd) = _
    rw [cf_mix_0, cf_mix_0]
  · intro n s hs
    have e : s = (os, og) := Eq.trans hs (by rw [cf_mix_e kd h1, cf_mix_e ke h2])
    rw [e]
    exact br_t (nI_le (a := 6) (b := 6) (by decide) (by decide)) (cf_torn51 kf h3 hp)
  · intro n i s hi hs ih
    have e : s = (cf_mix i os sz, cf_mix i og gd) := hs
    rw [e]
    have hv : vp_in (nI i) 6 := vp_in_nI hi (by decide)
    exact br_f (nI_ge (b := 6) hi (by decide)) ⟨hv, hv, nm_r (cf_stp (by omega)) ⟨hv, hv, nm_r (cf_stpB (by omega) (kb i)) (nm_r (nI_1 i) (ih (cf_mix (i + 1) os sz, cf_mix (i + 1) og gd) rfl))⟩⟩
end
section
/-- lasting is sizes, guards, bytes, code; seen has the transaction's bytes while one is open; before is what stood before the last change, lasting itself while there is none -/
def cf_R (op ch cd oc : Int32) (sz gd bs sn os og ob S L B : Nat → Int32) : Prop := L = cf_im sz gd bs cd ∧ (op = 0 → S = cf_im sz gd bs cd) ∧ (¬ op = 0 → S = cf_im sz gd sn cd ∧ cf_ok sz gd sn) ∧ (ch = 0 → B = cf_im sz gd bs cd) ∧ (¬ ch = 0 → B = cf_im os og ob oc ∧ cf_ok os og ob) ∧ cf_ok sz gd bs ∧ cf_z 96 sn ∧ cf_z 6 os ∧ cf_z 6 og ∧ cf_z 96 ob
def i_Rel (_ : Nat) (u : SX) (v : SY) : Prop := match u, v with
  | (tr, vf, op, S, L, B), (cd, tr', vf', op', ch, oc, sz, gd, bs, sn, os, og, ob) => tr' = tr ∧ vf' = vf ∧ op' = op ∧ cf_R op ch cd oc sz gd bs sn os og ob S L B
theorem i_up {k : Nat} {u : SX} {v : SY} (h : i_Rel k u v) : i_Rel (k + 4) u v := h
theorem cf_im_0 : cf_im (fun _ => 0) (fun _ => 0) (fun _ => 0) 0 = fun _ => 0 := by
  funext j
  dsimp only [cf_im]
  simp only [ite_self]
theorem cf_0ne : ¬ (1 : Int32) = 0 := by decide
/-- after a change outside a transaction, or a commit -/
theorem cf_R_new {op cd cd' : Int32} {sz gd bs sz' gd' bs' sn : Nat → Int32} (h0 : op = 0) (ok : cf_ok sz gd bs) (ok' : cf_ok sz' gd' bs') (zs : cf_z 96 sn) : cf_R op 1 cd' cd sz' gd' bs' sn sz gd bs (cf_im sz' gd' bs' cd') (cf_im sz' gd' bs' cd') (cf_im sz gd bs cd) :=
  ⟨rfl, fun _ => rfl, fun h => absurd h0 h, fun h => absurd h cf_0ne, fun _ => ⟨rfl, ok⟩, ok', zs, ok.2.2.2.1, ok.2.2.2.2.1, ok.2.2.2.2.2⟩
/-- after power and torn -/
theorem cf_R_pow {cd oc : Int32} {sz gd bs sn os og ob : Nat → Int32} (ok : cf_ok sz gd bs) (zs : cf_z 96 sn) (z1 : cf_z 6 os) (z2 : cf_z 6 og) (z3 : cf_z 96 ob) : cf_R 0 0 cd oc sz gd bs sn os og ob (cf_im sz gd bs cd) (cf_im sz gd bs cd) (cf_im sz gd bs cd) :=
  ⟨rfl, fun _ => rfl, fun h => absurd rfl h, fun _ => rfl, fun h => absurd rfl h, ok, zs, z1, z2, z3⟩
theorem cf_R_B {op ch cd oc : Int32} {sz gd bs sn os og ob S L B : Nat → Int32} (R : cf_R op ch cd oc sz gd bs sn os og ob S L B) : cf_z 109 B := by
  obtain ⟨_, _, _, r4, r5, _⟩ := R
  by_cases h : ch = 0
  · rw [r4 h]; exact cf_im_z
  · rw [(r5 h).1]; exact cf_im_z
/-- the bytes that calls see -/
theorem cf_R_S {op ch cd oc : Int32} {sz gd bs sn os og ob S L B : Nat → Int32} (R : cf_R op ch cd oc sz gd bs sn os og ob S L B) : ∃ bx : Nat → Int32, S = cf_im sz gd bx cd ∧ cf_ok sz gd bx ∧ (op = 0 → bx = bs) ∧ (¬ op = 0 → bx = sn) := by
  obtain ⟨_, r2, r3, _, _, r6, _⟩ := R
  by_cases h : op = 0
  · exact ⟨bs, r2 h, r6, fun _ => rfl, fun z => absurd h z⟩
  · exact ⟨sn, (r3 h).1, (r3 h).2, fun z => absurd z h, fun _ => rfl⟩
theorem i_vc0 : wpX_init (fun u => wpY_init (fun v => i_Rel 0 u v)) := by
  unfold wpX_init wpY_init
  have e : upd (fun _ => 0) 108 1234 = cf_im (fun _ => 0) (fun _ => 0) (fun _ => 0) 1234 :=
    (congrArg (fun f => upd f 108 1234) cf_im_0.symm).trans cf_up_cd
  rw [e]
  exact nm_e (nm_e (nm_e ⟨rfl, rfl, rfl, cf_R_pow cf_ok_0 cf_z_0 cf_z_0 cf_z_0 cf_z_0⟩))
theorem i_vc_begin {k : Nat} {u : SX} {v : SY} (I : i_Rel k u v) (hk : k + 4 ≤ 2048) : wpX_begin (fun r u' => wpY_begin (fun r' v' => r' = r ∧ i_Rel (k + 4) u' v') v) u := by
  obtain ⟨tr, vf, op, S, L, B⟩ := u
  obtain ⟨cd, tr', vf', op', ch, oc, sz, gd, bs, sn, os, og, ob⟩ := v
  obtain ⟨rfl, rfl, rfl, R⟩ := I
  by_cases h : op' = 0
  · obtain ⟨r1, r2, r3, r4, r5, r6, r7, r8, r9, r10⟩ := R
    refine br_t h (br_t h (cf_begin17 r6.2.2.2.2.2 r7 ⟨rfl, rfl, rfl, rfl, ?_⟩))
    exact ⟨r1, fun z => absurd z cf_0ne, fun _ => ⟨r2 h, r6⟩, r4, r5, r6, r6.2.2.2.2.2, r8, r9, r10⟩
  · exact br_f h (br_f h ⟨rfl, rfl, rfl, rfl, R⟩)
theorem i_vc_commit {k : Nat} {u : SX} {v : SY} (I : i_Rel k u v) (hk : k + 4 ≤ 2048) : wpX_commit (fun r u' => wpY_commit (fun r' v' => r' = r ∧ i_Rel (k + 4) u' v') v) u := by
  obtain ⟨tr, vf, op, S, L, B⟩ := u
  obtain ⟨cd, tr', vf', op', ch, oc, sz, gd, bs, sn, os, og, ob⟩ := v
  obtain ⟨rfl, rfl, rfl, R⟩ := I
  by_cases h : op' = 0
  · exact br_t h (br_t h ⟨rfl, rfl, rfl, rfl, R⟩)
  · have hB := cf_R_B R
    obtain ⟨rfl, r2, r3, r4, r5, r6, r7, r8, r9, r10⟩ := R
    obtain ⟨rfl, k3⟩ := r3 h
    refine br_f h (cf_ml cf_im_z cf_im_z hB ?_)
    refine br_f h (cf_keep r6 r8 r9 r10 ?_)
    refine cf_commit16 r7 r6.2.2.2.2.2 ?_
    exact ⟨rfl, rfl, rfl, rfl, cf_R_new rfl r6 k3 r7⟩
theorem i_vc_abort {k : Nat} {u : SX} {v : SY} (I : i_Rel k u v) (hk : k + 4 ≤ 2048) : wpX_abort (fun r u' => wpY_abort (fun r' v' => r' = r ∧ i_Rel (k + 4) u' v') v) u := by
  obtain ⟨tr, vf, op, S, L, B⟩ := u
  obtain ⟨cd, tr', vf', op', ch, oc, sz, gd, bs, sn, os, og, ob⟩ := v
  obtain ⟨rfl, rfl, rfl, R⟩ := I
  by_cases h : op' = 0
  · exact br_t h (br_t h ⟨rfl, rfl, rfl, rfl, R⟩)
  · obtain ⟨rfl, r2, r3, r4, r5, r6, r7, r8, r9, r10⟩ := R
    obtain ⟨rfl, k3⟩ := r3 h
    refine br_f h (cf_fg cf_im_z cf_im_z ?_)
    refine br_f h ⟨rfl, rfl, rfl, rfl, ?_⟩
    exact ⟨rfl, fun _ => rfl, fun z => absurd rfl z, r4, r5, r6, r7, r8, r9, r10⟩
theorem i_vc_verify {k : Nat} {u : SX} {v : SY} (I : i_Rel k u v) (hk : k + 4 ≤ 2048) (v1 : Int32) : wpX_verify (fun r u' => wpY_verify (fun r' v' => r' = r ∧ i_Rel (k + 4) u' v') v v1) u v1 := by
  obtain ⟨tr, vf, op, S, L, B⟩ := u
  obtain ⟨cd, tr', vf', op', ch, oc, sz, gd, bs, sn, os, og, ob⟩ := v
  obtain ⟨rfl, rfl, rfl, R⟩ := I
  by_cases h : tr' = 0
  · exact br_t h (br_t h ⟨rfl, rfl, rfl, rfl, R⟩)
  · obtain ⟨bx, e, _⟩ := cf_R_S R
    have c : S 108 = cd := by rw [e, cf_im_cd]
    by_cases z : v1 = cd
    · refine br_f h (br_t (z.trans c.symm) ⟨rfl, rfl, br_f cf_0ne ?_⟩)
      exact br_f h (br_t z ⟨rfl, rfl, br_f cf_0ne ⟨rfl, rfl, rfl, rfl, R⟩⟩)
    · refine br_f h (br_f (fun w => z (w.trans c)) ⟨rfl, rfl, br_t rfl (nm_e ?_)⟩)
      exact br_f h (br_f z ⟨rfl, rfl, br_t rfl (nm_e ⟨rfl, rfl, rfl, rfl, R⟩)⟩)
theorem i_vc_change {k : Nat} {u : SX} {v : SY} (I : i_Rel k u v) (hk : k + 4 ≤ 2048) (v1 : Int32) : wpX_change (fun r u' => wpY_change (fun r' v' => r' = r ∧ i_Rel (k + 4) u' v') v v1) u v1 := by
  obtain ⟨tr, vf, op, S, L, B⟩ := u
  obtain ⟨cd, tr', vf', op', ch, oc, sz, gd, bs, sn, os, og, ob⟩ := v
  obtain ⟨rfl, rfl, rfl, R⟩ := I
  by_cases h0 : v1 < 0
  · exact br_t h0 (br_t h0 ⟨rfl, rfl, rfl, rfl, R⟩)
  by_cases h9 : v1 ≤ 9999
  · by_cases hv : vf' = 0
    · exact br_f h0 (br_t h9 (br_t hv (br_f h0 (br_t h9 (br_t hv ⟨rfl, rfl, rfl, rfl, R⟩)))))
    by_cases h : op' = 0
    · have hB := cf_R_B R
      obtain ⟨rfl, r2, r3, r4, r5, r6, r7, r8, r9, r10⟩ := R
      obtain rfl := r2 h
      refine br_f h0 (br_t h9 (br_f hv (br_t h (nm_r cf_up_cd (cf_ml cf_im_z cf_im_z hB ?_)))))
      refine br_f h0 (br_t h9 (br_f hv (br_t h (cf_keep r6 r8 r9 r10 ?_))))
      exact ⟨rfl, rfl, rfl, rfl, cf_R_new h r6 r6 r7⟩
    · exact br_f h0 (br_t h9 (br_f hv (br_f h (br_f h0 (br_t h9 (br_f hv (br_f h ⟨rfl, rfl, rfl, rfl, R⟩)))))))
  · exact br_f h0 (br_f h9 (br_f h0 (br_f h9 ⟨rfl, rfl, rfl, rfl, R⟩)))
theorem i_vc_power {k : Nat} {u : SX} {v : SY} (I : i_Rel k u v) (hk : k + 4 ≤ 2048) : wpX_power (fun u' => wpY_power (fun v' => i_Rel (k + 4) u' v') v) u := by
  obtain ⟨tr, vf, op, S, L, B⟩ := u
  obtain ⟨cd, tr', vf', op', ch, oc, sz, gd, bs, sn, os, og, ob⟩ := v
  obtain ⟨rfl, rfl, rfl, R⟩ := I
  have hB := cf_R_B R
  obtain ⟨bx, rfl, _⟩ := cf_R_S R
  obtain ⟨rfl, r2, r3, r4, r5, r6, r7, r8, r9, r10⟩ := R
  refine cf_pw cf_im_z cf_im_z hB ?_
  exact ⟨rfl, rfl, rfl, cf_R_pow r6 r7 r8 r9 r10⟩
theorem cf_xtorn15 {post : SX → Prop} {tr vf op : Int32} {S L B : Nat → Int32} (hS : cf_z 109 S) (hL : cf_z 109 L) (hB : cf_z 109 B) (hp : post (tr, 0, 0, L, L, L)) : wX_torn_15 post tr vf op S L B := by
  unfold wX_torn_15
  refine cf_pw hS hL hB ?_
  exact hp
theorem i_vc_torn {k : Nat} {u : SX} {v : SY} (I : i_Rel k u v) (hk : k + 4 ≤ 2048) (v1 : Int32) (v2 : Int32) : wpX_torn (fun u' => wpY_torn (fun v' => i_Rel (k + 4) u' v') v (lw_bz v1) v2) u (lw_bz v1) v2 := by
  obtain ⟨tr, vf, op, S, L, B⟩ := u
  obtain ⟨cd, tr', vf', op', ch, oc, sz, gd, bs, sn, os, og, ob⟩ := v
  obtain ⟨rfl, rfl, rfl, R⟩ := I
  have hB := cf_R_B R
  obtain ⟨bx, rfl, _⟩ := cf_R_S R
  obtain ⟨rfl, r2, r3, r4, r5, r6, r7, r8, r9, r10⟩ := R
  by_cases m : lw_bz v1 = 0
  · refine br_t m (cf_c_bl hB cf_im_z ?_)
    refine cf_xtorn15 cf_im_z hB hB ?_
    by_cases c : ch = 0
    · obtain rfl := r4 c
      exact br_t c (cf_torn83 ⟨rfl, rfl, rfl, cf_R_pow r6 r7 r8 r9 r10⟩)
    · obtain ⟨rfl, k5⟩ := r5 c
      exact br_f c (br_t m (cf_torn13 k5 r6.2.2.2.1 r6.2.2.2.2.1 r6.2.2.2.2.2 ⟨rfl, rfl, rfl, cf_R_pow k5 r7 r8 r9 r10⟩))
  · refine br_f m (cf_xtorn15 cf_im_z cf_im_z hB ?_)
    by_cases c : ch = 0
    · exact br_t c (cf_torn83 ⟨rfl, rfl, rfl, cf_R_pow r6 r7 r8 r9 r10⟩)
    · exact br_f c (br_f m (cf_torn83 ⟨rfl, rfl, rfl, cf_R_pow r6 r7 r8 r9 r10⟩))
theorem i_vc_state {k : Nat} {u : SX} {v : SY} (I : i_Rel k u v) (hk : k + 4 ≤ 2048) : wpX_state (fun r => wpY_state (fun r' => r' = r ∧ i_Rel (k + 4) u v) v) u := by
  obtain ⟨tr, vf, op, S, L, B⟩ := u
  obtain ⟨cd, tr', vf', op', ch, oc, sz, gd, bs, sn, os, og, ob⟩ := v
  obtain ⟨rfl, rfl, rfl, R⟩ := I
  by_cases h : vf' = 0
  · exact br_t h (br_t h ⟨Int32.add_zero _, rfl, rfl, rfl, R⟩)
  · exact br_f h (br_f h ⟨rfl, rfl, rfl, rfl, R⟩)
end
section
/-- a file's number is below 0, from 6 on, or from 0 to 5 -/
theorem cf_fc (x : Int32) : (x < 0 ∨ ∃ m : Nat, 6 ≤ m ∧ m < 2 ^ 31 ∧ x = nI m) ∨ ∃ j : Nat, j < 6 ∧ x = nI j := by
  by_cases h : x < 0
  · exact Or.inl (Or.inl h)
  · obtain ⟨m, hm, e⟩ := nI_of h
    by_cases h6 : m < 6
    · exact Or.inr ⟨m, h6, e⟩
    · exact Or.inl (Or.inr ⟨m, by omega, hm, e⟩)
theorem cf_fb {post : Int32 → Prop} {x : Int32} (h : x < 0 ∨ ∃ m : Nat, 6 ≤ m ∧ m < 2 ^ 31 ∧ x = nI m) (hp : post 0) : wpX_isFileNumber post x := by
  rcases h with h | ⟨m, h6, hm, rfl⟩
  · exact br_t h hp
  · exact br_f (nI_pos hm) (br_t (nI_le (a := 6) h6 hm) hp)
theorem cf_fo {post : Int32 → Prop} {j : Nat} (hj : j < 6) (hp : post 1) : wpX_isFileNumber post (nI j) :=
  br_f (nI_pos (by omega)) (br_f (nI_ge (b := 6) hj (by decide)) hp)
theorem cf_xsb {post : Int32 → Prop} {tr vf op : Int32} {S L B : Nat → Int32} {x : Int32} (h : x < 0 ∨ ∃ m : Nat, 6 ≤ m ∧ m < 2 ^ 31 ∧ x = nI m) (hp : post 0) : wpX_size post (tr, vf, op, S, L, B) x := by
  unfold wpX_size
  dsimp only
  refine cf_fb h ?_
  exact br_t rfl hp
theorem cf_in0 {j : Nat} (hj : j < 6) : vp_in ((0 : Int32) + nI j) 109 := by
  rw [cf_ix0]
  exact vp_in_nI (by omega) (by decide)
theorem cf_cl0 {j : Nat} (hj : j < 6) : ((0 : Int32) + nI j).toNatClampNeg = j := by
  rw [cf_ix0]
  exact nI_clamp (by omega)
theorem cf_in6 {j : Nat} (hj : j < 6) : vp_in ((6 : Int32) + nI j) 109 := by
  rw [cf_ix6]
  exact vp_in_nI (by omega) (by decide)
theorem cf_cl6 {j : Nat} (hj : j < 6) : ((6 : Int32) + nI j).toNatClampNeg = 6 + j := by
  rw [cf_ix6]
  exact nI_clamp (by omega)
theorem cf_xso {post : Int32 → Prop} {tr vf op : Int32} {S L B : Nat → Int32} {j : Nat} (hj : j < 6) (hp : post (S j)) : wpX_size post (tr, vf, op, S, L, B) (nI j) := by
  unfold wpX_size
  dsimp only
  refine cf_fo hj ?_
  refine br_f cf_0ne ⟨cf_in0 hj, ?_⟩
  rw [cf_cl0 hj]
  exact hp
theorem i_vc_size {k : Nat} {u : SX} {v : SY} (I : i_Rel k u v) (hk : k + 4 ≤ 2048) (v1 : Int32) : wpX_size (fun r => wpY_size (fun r' => r' = r ∧ i_Rel (k + 4) u v) v v1) u v1 := by
  obtain ⟨tr, vf, op, S, L, B⟩ := u
  obtain ⟨cd, tr', vf', op', ch, oc, sz, gd, bs, sn, os, og, ob⟩ := v
  obtain ⟨rfl, rfl, rfl, R⟩ := I
  obtain ⟨bx, e, _⟩ := cf_R_S R
  rcases cf_fc v1 with h | ⟨j, hj, rfl⟩
  · refine cf_xsb h ?_
    rcases h with h | ⟨m, h6, hm, rfl⟩
    · exact br_t h ⟨rfl, rfl, rfl, rfl, R⟩
    · exact br_f (nI_pos hm) (br_f (nI_ge (a := 5) (by omega) hm) ⟨rfl, rfl, rfl, rfl, R⟩)
  · refine cf_xso hj ?_
    refine br_f (nI_pos (by omega)) (br_t (nI_le (b := 5) (by omega) (by decide)) ⟨vp_in_nI hj (by decide), ?_, rfl, rfl, rfl, R⟩)
    rw [nI_clamp (by omega), e, cf_im_sz hj]
/-- both sides refuse with one answer below 0, or both go on, at a file that is there and an offset within -/
theorem cf_acc {tr vf op cd ch oc : Int32} {S L B sz gd bs bx sn os og ob : Nat → Int32} (hS : S = cf_im sz gd bx cd) (hk : cf_ok sz gd bs) (p q : Int32) : (∃ r : Int32, ¬ r = 0 ∧ ¬ 0 ≤ r ∧ (∀ post : Int32 → Prop, post r → wpX_refusalOfAccess post (tr, vf, op, S, L, B) p q) ∧ (∀ post : Int32 → Prop, post r → wpY_refuse post (cd, tr, vf, op, ch, oc, sz, gd, bs, sn, os, og, ob) p q)) ∨ (∃ j o : Nat, j < 6 ∧ o < 16 ∧ p = nI j ∧ q = nI o ∧ ¬ sz j = 0 ∧ (∀ post : Int32 → Prop, post 0 → wpX_refusalOfAccess post (tr, vf, op, S, L, B) p q) ∧ (∀ post : Int32 → Prop, post 0 → wpY_refuse post (cd, tr, vf, op, ch, oc, sz, gd, bs, sn, os, og, ob) p q)) := by
  subst hS
  have m1 : ¬ (-1 : Int32) = 0 := by decide
  have m2 : ¬ (0 : Int32) ≤ -1 := by decide
  have m3 : ¬ (-3 : Int32) = 0 := by decide
  have m4 : ¬ (0 : Int32) ≤ -3 := by decide
  by_cases hq : q < 0
  · refine Or.inl ⟨-1, m1, m2, fun post hp => br_t hq hp, fun post hp => ?_⟩
    rcases cf_fc p with (h | ⟨m, h6, hm, rfl⟩) | ⟨j, hj, rfl⟩
    · exact br_t h hp
    · exact br_f (nI_pos hm) (br_t (nI_lt (a := 5) (by omega) hm) hp)
    · exact br_f (nI_pos (by omega)) (br_f (nI_nlt (a := 5) (by omega) (by decide)) (br_t hq hp))
  · obtain ⟨o, ho, rfl⟩ := nI_of hq
    rcases cf_fc p with h | ⟨j, hj, rfl⟩
    · refine Or.inl ⟨-1, m1, m2, fun post hp => br_f hq (cf_xsb h (br_f hq hp)), fun post hp => ?_⟩
      rcases h with h | ⟨m, h6, hm, rfl⟩
      · exact br_t h hp
      · exact br_f (nI_pos hm) (br_t (nI_lt (a := 5) (by omega) hm) hp)
    · obtain ⟨s, hs, es⟩ := hk.1 j hj
      have j0 : ¬ nI j < 0 := nI_pos (by omega)
      have j5 : ¬ (5 : Int32) < nI j := nI_nlt (a := 5) (by omega) (by decide)
      have ji : vp_in (nI j) 6 := vp_in_nI hj (by decide)
      have jc : (nI j).toNatClampNeg = j := nI_clamp (by omega)
      have xs : cf_im sz gd bx cd j = nI s := by rw [cf_im_sz hj, es]
      have ys : sz (nI j).toNatClampNeg = nI s := by rw [jc, es]
      have xg : cf_im sz gd bx cd ((6 : Int32) + nI j).toNatClampNeg = gd j := by rw [cf_cl6 hj, cf_im_gd hj]
      have yg : gd (nI j).toNatClampNeg = gd j := by rw [jc]
      by_cases os : o < s
      · have lx : nI o < cf_im sz gd bx cd j := by rw [xs]; exact nI_lt os (by omega)
        have ly : nI o < sz (nI j).toNatClampNeg := by rw [ys]; exact nI_lt os (by omega)
        have nz : ¬ sz j = 0 := by rw [es]; exact nI_ne0 (by omega) (by omega)
        by_cases g : gd j = 0
        · refine Or.inr ⟨j, o, hj, by omega, rfl, rfl, nz, fun post hp => ?_, fun post hp => ?_⟩
          · exact br_f hq (cf_xso hj (br_t lx ⟨cf_in6 hj, br_t (xg.trans g) hp⟩))
          · exact br_f j0 (br_f j5 (br_f hq ⟨ji, br_t ly ⟨ji, br_t (yg.trans g) hp⟩⟩))
        · by_cases v : vf = 0
          · refine Or.inl ⟨-3, m3, m4, fun post hp => ?_, fun post hp => ?_⟩
            · exact br_f hq (cf_xso hj (br_t lx ⟨cf_in6 hj, br_f (fun z => g (xg.symm.trans z)) (br_t v hp)⟩))
            · exact br_f j0 (br_f j5 (br_f hq ⟨ji, br_t ly ⟨ji, br_f (fun z => g (yg.symm.trans z)) (br_t v hp)⟩⟩))
          · refine Or.inr ⟨j, o, hj, by omega, rfl, rfl, nz, fun post hp => ?_, fun post hp => ?_⟩
            · exact br_f hq (cf_xso hj (br_t lx ⟨cf_in6 hj, br_f (fun z => g (xg.symm.trans z)) (br_f v hp)⟩))
            · exact br_f j0 (br_f j5 (br_f hq ⟨ji, br_t ly ⟨ji, br_f (fun z => g (yg.symm.trans z)) (br_f v hp)⟩⟩))
      · have lx : ¬ nI o < cf_im sz gd bx cd j := by rw [xs]; exact nI_nlt (by omega) ho
        have ly : ¬ nI o < sz (nI j).toNatClampNeg := by rw [ys]; exact nI_nlt (by omega) ho
        refine Or.inl ⟨-1, m1, m2, fun post hp => ?_, fun post hp => ?_⟩
        · exact br_f hq (cf_xso hj (br_f lx hp))
        · exact br_f j0 (br_f j5 (br_f hq ⟨ji, br_f ly hp⟩))
theorem cf_pl {post : Int32 → Prop} {j o : Nat} (hp : post (nI (12 + (16 * j + o)))) : wpX_placeOf post (nI j) (nI o) := by
  unfold wpX_placeOf
  rw [cf_ix12]
  exact hp
theorem i_vc_read {k : Nat} {u : SX} {v : SY} (I : i_Rel k u v) (hk : k + 4 ≤ 2048) (v1 : Int32) (v2 : Int32) : wpX_read (fun r => wpY_read (fun r' => r' = r ∧ i_Rel (k + 4) u v) v v1 v2) u v1 v2 := by
  obtain ⟨tr, vf, op, S, L, B⟩ := u
  obtain ⟨cd, tr', vf', op', ch, oc, sz, gd, bs, sn, os, og, ob⟩ := v
  obtain ⟨rfl, rfl, rfl, R⟩ := I
  obtain ⟨bx, eS, ox, e0, e1⟩ := cf_R_S R
  have r6 := R.2.2.2.2.2.1
  rcases cf_acc (tr := tr') (vf := vf') (op := op') (ch := ch) (oc := oc) (L := L) (B := B) (sn := sn) (os := os) (og := og) (ob := ob) eS r6 v1 v2 with ⟨r, n0, n1, hX, hY⟩ | ⟨j, o, hj, ho, rfl, rfl, nz, hX, hY⟩
  · unfold wpX_read wpY_read
    dsimp only
    refine hX _ ?_
    refine br_f n0 ?_
    refine hY _ ?_
    exact br_f n1 ⟨rfl, rfl, rfl, rfl, R⟩
  · have iy : vp_in ((16 : Int32) * nI j + nI o) 96 := by rw [cf_ix]; exact vp_in_nI (by omega) (by decide)
    have cy : ((16 : Int32) * nI j + nI o).toNatClampNeg = 16 * j + o := by rw [cf_ix]; exact nI_clamp (by omega)
    have cx : (nI (12 + (16 * j + o))).toNatClampNeg = 12 + (16 * j + o) := nI_clamp (by omega)
    have ex : S (nI (12 + (16 * j + o))).toNatClampNeg = bx (16 * j + o) := by rw [cx, eS, cf_im_bs (by omega)]
    unfold wpX_read wpY_read
    dsimp only
    refine hX _ ?_
    refine br_t rfl ?_
    refine cf_pl ?_
    refine ⟨vp_in_nI (by omega) (by decide), ?_⟩
    refine hY _ ?_
    refine br_t (by decide) ?_
    by_cases h : op' = 0
    · refine br_t h ⟨iy, ?_, rfl, rfl, rfl, R⟩
      rw [ex, cy, e0 h]
    · refine br_f h ⟨iy, ?_, rfl, rfl, rfl, R⟩
      rw [ex, cy, e1 h]
theorem i_vc_update {k : Nat} {u : SX} {v : SY} (I : i_Rel k u v) (hk : k + 4 ≤ 2048) (v1 : Int32) (v2 : Int32) (v3 : Int32) : wpX_update (fun r u' => wpY_update (fun r' v' => r' = r ∧ i_Rel (k + 4) u' v') v v1 v2 v3) u v1 v2 v3 := by
  obtain ⟨tr, vf, op, S, L, B⟩ := u
  obtain ⟨cd, tr', vf', op', ch, oc, sz, gd, bs, sn, os, og, ob⟩ := v
  obtain ⟨rfl, rfl, rfl, R⟩ := I
  obtain ⟨bx, eS, ox, e0, e1⟩ := cf_R_S R
  have hB := cf_R_B R
  obtain ⟨r1, r2, r3, r4, r5, r6, r7, r8, r9, r10⟩ := id R
  rcases cf_acc (tr := tr') (vf := vf') (op := op') (ch := ch) (oc := oc) (L := L) (B := B) (sn := sn) (os := os) (og := og) (ob := ob) eS r6 v1 v2 with ⟨r, n0, n1, hX, hY⟩ | ⟨j, o, hj, ho, rfl, rfl, nz, hX, hY⟩
  · unfold wpX_update
    dsimp only
    refine hX _ ?_
    refine br_f n0 ?_
    unfold wpY_update
    dsimp only
    refine hY _ ?_
    exact br_f n1 ⟨rfl, rfl, rfl, rfl, R⟩
  · have iy : vp_in ((16 : Int32) * nI j + nI o) 96 := by rw [cf_ix]; exact vp_in_nI (by omega) (by decide)
    have cy : ((16 : Int32) * nI j + nI o).toNatClampNeg = 16 * j + o := by rw [cf_ix]; exact nI_clamp (by omega)
    have cx : (nI (12 + (16 * j + o))).toNatClampNeg = 12 + (16 * j + o) := nI_clamp (by omega)
    have ex : upd S (nI (12 + (16 * j + o))).toNatClampNeg (v3 &&& 255) = cf_im sz gd (upd bx (16 * j + o) (v3 &&& 255)) cd := by rw [cx, eS, cf_up_bs (by omega)]
    have ok := cf_ok_update (x := v3 &&& 255) ox hj ho nz
    have zL : cf_z 109 L := by rw [r1]; exact cf_im_z
    unfold wpX_update
    dsimp only
    refine hX _ ?_
    refine br_t rfl ?_
    refine cf_pl ?_
    refine ⟨vp_in_nI (by omega) (by decide), nm_r ex ?_⟩
    by_cases h : op' = 0
    · obtain rfl := e0 h
      refine br_t h (cf_ml cf_im_z zL hB ?_)
      dsimp only
      unfold wpY_update
      dsimp only
      refine hY _ ?_
      refine br_t (by decide) (br_t h (cf_keep r6 r8 r9 r10 ?_))
      dsimp only
      refine ⟨iy, nm_r (congrArg (fun z => upd bx z (v3 &&& 255)) cy) ⟨rfl, rfl, rfl, rfl, ?_⟩⟩
      rw [r1]
      exact cf_R_new h r6 ok r7
    · obtain rfl := e1 h
      refine br_f h ?_
      unfold wpY_update
      dsimp only
      refine hY _ ?_
      refine br_t (by decide) (br_f h ⟨iy, nm_r (congrArg (fun z => upd bx z (v3 &&& 255)) cy) ⟨rfl, rfl, rfl, rfl, ?_⟩⟩)
      exact ⟨r1, fun z => absurd z h, fun _ => ⟨rfl, ok⟩, r4, r5, r6, ok.2.2.2.2.2, r8, r9, r10⟩
end
section
theorem cf_x67 {post : Int32 → SX → Prop} {g tr vf op : Int32} {S S' L B : Nat → Int32} {j : Nat} (hj : j < 6) (e : upd S (6 + j) g = S') (hS : cf_z 109 S') (hL : cf_z 109 L) (hB : cf_z 109 B) (hp : post 0 (tr, vf, op, S', S', L)) : wX_create_67 post g (6 + nI j) tr vf op S L B := by
  unfold wX_create_67
  refine ⟨cf_in6 hj, nm_r (e' := S') ?_ (cf_ml hS hL hB ?_)⟩
  · rw [cf_cl6 hj, e]
  · exact hp
theorem i_vc_create {k : Nat} {u : SX} {v : SY} (I : i_Rel k u v) (hk : k + 4 ≤ 2048) (v1 : Int32) (v2 : Int32) (v3 : Int32) : wpX_create (fun r u' => wpY_create (fun r' v' => r' = r ∧ i_Rel (k + 4) u' v') v v1 v2 (lw_bz v3)) u v1 v2 (lw_bz v3) := by
  obtain ⟨tr, vf, op, S, L, B⟩ := u
  obtain ⟨cd, tr', vf', op', ch, oc, sz, gd, bs, sn, os, og, ob⟩ := v
  obtain ⟨rfl, rfl, rfl, R⟩ := I
  obtain ⟨bx, eS, ox, e0, e1⟩ := cf_R_S R
  have hB := cf_R_B R
  obtain ⟨r1, r2, r3, r4, r5, r6, r7, r8, r9, r10⟩ := id R
  have zL : cf_z 109 L := by rw [r1]; exact cf_im_z
  unfold wpX_create
  dsimp only
  rcases cf_fc v1 with h | ⟨j, hj, rfl⟩
  · refine cf_fb h ?_
    refine br_t rfl ?_
    rcases h with h | ⟨m, h6, hm, rfl⟩
    · exact br_t h ⟨rfl, rfl, rfl, rfl, R⟩
    · exact br_f (nI_pos hm) (br_t (nI_lt (a := 5) (by omega) hm) ⟨rfl, rfl, rfl, rfl, R⟩)
  · obtain ⟨s, hs, es⟩ := r6.1 j hj
    have j0 : ¬ nI j < 0 := nI_pos (by omega)
    have j5 : ¬ (5 : Int32) < nI j := nI_nlt (a := 5) (by omega) (by decide)
    have ji : vp_in (nI j) 6 := vp_in_nI hj (by decide)
    have jc : (nI j).toNatClampNeg = j := nI_clamp (by omega)
    have xs : S ((0 : Int32) + nI j).toNatClampNeg = sz j := by rw [cf_cl0 hj, eS, cf_im_sz hj]
    have ys : sz (nI j).toNatClampNeg = sz j := by rw [jc]
    refine cf_fo hj ?_
    refine br_f cf_0ne ⟨cf_in0 hj, ?_⟩
    by_cases z : sz j = 0
    · have yz : ¬ 0 < sz (nI j).toNatClampNeg := by rw [ys, z]; decide
      refine br_t (xs.trans z) ?_
      by_cases h1 : v2 < 1
      · exact br_t h1 (br_f j0 (br_f j5 ⟨ji, br_f yz (br_t h1 ⟨rfl, rfl, rfl, rfl, R⟩)⟩))
      by_cases h2 : v2 ≤ 16
      · by_cases h : op' = 0
        · obtain rfl := e0 h
          obtain ⟨w, hw, rfl⟩ : ∃ w : Nat, w ≤ 16 ∧ v2 = nI w := nI_of2 (M := 16) (by decide) (fun a => h1 (Int32.lt_trans a (by decide))) h2
          have w1 : 1 ≤ w := by
            by_cases w0 : w = 0
            · subst w0
              exact absurd (by decide) h1
            · omega
          have eu : upd S ((0 : Int32) + nI j).toNatClampNeg (nI w) = cf_im (upd sz j (nI w)) gd bx cd := by rw [cf_cl0 hj, eS, cf_up_sz hj]
          have mk : ∀ g : Int32, lw_bz v3 = g → (g = 0 ∨ g = 1) → wpY_create (fun r' v' => r' = 0 ∧ i_Rel (k + 4) (tr', vf', op', cf_im (upd sz j (nI w)) (upd gd j g) bx cd, cf_im (upd sz j (nI w)) (upd gd j g) bx cd, L) v') (cd, tr', vf', op', ch, oc, sz, gd, bx, sn, os, og, ob) (nI j) (nI w) (lw_bz v3) := by
            intro g eg hg
            refine br_f j0 (br_f j5 ⟨ji, br_f yz (br_f h1 (br_t h2 (br_t h (cf_keep r6 r8 r9 r10 ?_))))⟩)
            dsimp only
            refine ⟨ji, nm_r (congrArg (fun y => upd sz y (nI w)) jc) ⟨ji, nm_r (e' := upd gd j g) ?_ (cf_zero hj (r6.2.2.1 j hj z) ⟨rfl, rfl, rfl, rfl, ?_⟩)⟩⟩
            · rw [jc, eg, cf_bo hg]
            · rw [r1]
              exact cf_R_new h r6 (cf_ok_create r6 hj w1 hw hg) r7
          refine br_f h1 (br_t h2 (br_t h ⟨cf_in0 hj, nm_r eu ?_⟩))
          by_cases g : lw_bz v3 = 0
          · exact br_t g (cf_x67 hj (cf_up_gd hj) cf_im_z zL hB (mk 0 g (Or.inl rfl)))
          · have g1 : lw_bz v3 = 1 := (lw_bz_01 v3).resolve_left g
            exact br_f g (cf_x67 hj (cf_up_gd hj) cf_im_z zL hB (mk 1 g1 (Or.inr rfl)))
        · exact br_f h1 (br_t h2 (br_f h (br_f j0 (br_f j5 ⟨ji, br_f yz (br_f h1 (br_t h2 (br_f h ⟨rfl, rfl, rfl, rfl, R⟩)))⟩))))
      · exact br_f h1 (br_f h2 (br_f j0 (br_f j5 ⟨ji, br_f yz (br_f h1 (br_f h2 ⟨rfl, rfl, rfl, rfl, R⟩))⟩)))
    · have s0 : 0 < s := by
        by_cases w0 : s = 0
        · subst w0
          exact absurd (es.trans nI_0) z
        · omega
      have yz : 0 < sz (nI j).toNatClampNeg := by rw [ys, es]; exact nI_lt (a := 0) s0 (by omega)
      exact br_f (fun w => z (xs.symm.trans w)) (br_f j0 (br_f j5 ⟨ji, br_t yz ⟨rfl, rfl, rfl, rfl, R⟩⟩))
end
