section
/-- the picture that the component keeps of sizes, guards, bytes and code: one array of 109 cells -/
def cf_im (sz gd bs : Nat → Int32) (cd : Int32) : Nat → Int32 := fun j => if j < 6 then sz j else if j < 12 then gd (j - 6) else if j < 108 then bs (j - 12) else if j = 108 then cd else 0
/-- beyond its length an array's picture is 0 -/
def cf_z (n : Nat) (f : Nat → Int32) : Prop := ∀ j, n ≤ j → f j = 0
/-- sizes from 0 to 16, guards 0 or 1, the bytes of a file that is not there 0, nothing beyond the lengths -/
def cf_ok (sz gd bs : Nat → Int32) : Prop := (∀ j, j < 6 → ∃ s : Nat, s ≤ 16 ∧ sz j = nI s) ∧ (∀ j, gd j = 0 ∨ gd j = 1) ∧ (∀ j, j < 6 → sz j = 0 → ∀ i, i < 16 → bs (16 * j + i) = 0) ∧ cf_z 6 sz ∧ cf_z 6 gd ∧ cf_z 96 bs
theorem cf_us {f : Nat → Int32} {k : Nat} {x : Int32} : upd f k x k = x := if_pos rfl
theorem cf_un {f : Nat → Int32} {k j : Nat} {x : Int32} (h : j ≠ k) : upd f k x j = f j := if_neg h
theorem cf_usame {f : Nat → Int32} {k : Nat} {x : Int32} (h : f k = x) : upd f k x = f := by
  funext j
  by_cases e : j = k
  · subst e; rw [cf_us, h]
  · rw [cf_un e]
theorem cf_im_z {sz gd bs : Nat → Int32} {cd : Int32} : cf_z 109 (cf_im sz gd bs cd) := by
  intro j h
  dsimp only [cf_im]
  rw [if_neg (by omega), if_neg (by omega), if_neg (by omega), if_neg (by omega)]
theorem cf_im_sz {sz gd bs : Nat → Int32} {cd : Int32} {j : Nat} (h : j < 6) : cf_im sz gd bs cd j = sz j := by
  dsimp only [cf_im]
  rw [if_pos h]
theorem cf_im_gd {sz gd bs : Nat → Int32} {cd : Int32} {j : Nat} (h : j < 6) : cf_im sz gd bs cd (6 + j) = gd j := by
  dsimp only [cf_im]
  rw [if_neg (by omega), if_pos (by omega), Nat.add_sub_cancel_left]
theorem cf_im_bs {sz gd bs : Nat → Int32} {cd : Int32} {j : Nat} (h : j < 96) : cf_im sz gd bs cd (12 + j) = bs j := by
  dsimp only [cf_im]
  rw [if_neg (by omega), if_neg (by omega), if_pos (by omega), Nat.add_sub_cancel_left]
theorem cf_im_cd {sz gd bs : Nat → Int32} {cd : Int32} : cf_im sz gd bs cd 108 = cd := by
  dsimp only [cf_im]
  rw [if_neg (by omega), if_neg (by omega), if_neg (by omega), if_pos rfl]
theorem cf_up_sz {sz gd bs : Nat → Int32} {cd x : Int32} {j : Nat} (h : j < 6) : upd (cf_im sz gd bs cd) j x = cf_im (upd sz j x) gd bs cd := by
  funext i
  dsimp only [upd, cf_im]
  by_cases e : i = j
  · subst e
    rw [if_pos rfl, if_pos h, if_pos rfl]
  · rw [if_neg e]
    by_cases a : i < 6
    · rw [if_pos a, if_pos a, if_neg e]
    · rw [if_neg a, if_neg a]
theorem cf_up_gd {sz gd bs : Nat → Int32} {cd x : Int32} {j : Nat} (h : j < 6) : upd (cf_im sz gd bs cd) (6 + j) x = cf_im sz (upd gd j x) bs cd := by
  funext i
  dsimp only [upd, cf_im]
  by_cases e : i = 6 + j
  · subst e
    rw [if_pos rfl, if_neg (by omega), if_pos (by omega), if_pos (by omega)]
  · rw [if_neg e]
    by_cases a : i < 6
    · rw [if_pos a, if_pos a]
    · rw [if_neg a, if_neg a]
      by_cases b : i < 12
      · rw [if_pos b, if_pos b, if_neg (by omega)]
      · rw [if_neg b, if_neg b]
theorem cf_up_bs {sz gd bs : Nat → Int32} {cd x : Int32} {j : Nat} (h : j < 96) : upd (cf_im sz gd bs cd) (12 + j) x = cf_im sz gd (upd bs j x) cd := by
  funext i
  dsimp only [upd, cf_im]
  by_cases e : i = 12 + j
  · subst e
    rw [if_pos rfl, if_neg (by omega), if_neg (by omega), if_pos (by omega), if_pos (by omega)]
  · rw [if_neg e]
    by_cases a : i < 6
    · rw [if_pos a, if_pos a]
    · rw [if_neg a, if_neg a]
      by_cases b : i < 12
      · rw [if_pos b, if_pos b]
      · rw [if_neg b, if_neg b]
        by_cases c : i < 108
        · rw [if_pos c, if_pos c, if_neg (by omega)]
        · rw [if_neg c, if_neg c]
theorem cf_up_cd {sz gd bs : Nat → Int32} {cd x : Int32} : upd (cf_im sz gd bs cd) 108 x = cf_im sz gd bs x := by
  funext i
  dsimp only [upd, cf_im]
  by_cases e : i = 108
  · subst e
    rw [if_pos rfl, if_neg (by omega), if_neg (by omega), if_neg (by omega), if_pos rfl]
  · rw [if_neg e, if_neg e, if_neg e]
/-- the first i cells are f's, the others g's -/
def cf_mix (i : Nat) (f g : Nat → Int32) : Nat → Int32 := fun j => if j < i then f j else g j
theorem cf_mix_0 {f g : Nat → Int32} : cf_mix 0 f g = g := by
  funext j
  exact if_neg (Nat.not_lt_zero j)
theorem cf_mix_s {i : Nat} {f g : Nat → Int32} : upd (cf_mix i f g) i (f i) = cf_mix (i + 1) f g := by
  funext j
  dsimp only [upd, cf_mix]
  by_cases e : j = i
  · subst e
    rw [if_pos rfl, if_pos (by omega)]
  · rw [if_neg e]
    by_cases a : j < i
    · rw [if_pos a, if_pos (by omega)]
    · rw [if_neg a, if_neg (by omega)]
theorem cf_mix_e {n : Nat} {f g : Nat → Int32} (hf : cf_z n f) (hg : cf_z n g) : cf_mix n f g = f := by
  funext j
  dsimp only [cf_mix]
  by_cases a : j < n
  · rw [if_pos a]
  · rw [if_neg a, hf j (by omega), hg j (by omega)]
theorem cf_z_upd {n k : Nat} {f : Nat → Int32} {x : Int32} (h : cf_z n f) (hk : k < n) : cf_z n (upd f k x) := by
  intro j hj
  rw [cf_un (by omega)]
  exact h j hj
theorem cf_z_0 {n : Nat} : cf_z n (fun _ => 0) := fun _ _ => rfl
theorem cf_ok_0 : cf_ok (fun _ => 0) (fun _ => 0) (fun _ => 0) :=
  ⟨fun _ _ => ⟨0, Nat.zero_le _, nI_0.symm⟩, fun _ => Or.inl rfl, fun _ _ _ _ _ => rfl, cf_z_0, cf_z_0, cf_z_0⟩
/-- a file is made -/
theorem cf_ok_create {sz gd bs : Nat → Int32} (h : cf_ok sz gd bs) {j s : Nat} {g : Int32} (hj : j < 6) (h1 : 1 ≤ s) (h2 : s ≤ 16) (hg : g = 0 ∨ g = 1) : cf_ok (upd sz j (nI s)) (upd gd j g) bs := by
  obtain ⟨a, b, c, d, e, f⟩ := h
  refine ⟨?_, ?_, ?_, cf_z_upd d hj, cf_z_upd e hj, f⟩
  · intro q hq
    by_cases z : q = j
    · subst z; rw [cf_us]; exact ⟨s, h2, rfl⟩
    · rw [cf_un z]; exact a q hq
  · intro q
    by_cases z : q = j
    · subst z; rw [cf_us]; exact hg
    · rw [cf_un z]; exact b q
  · intro q hq hz
    by_cases z : q = j
    · subst z
      rw [cf_us] at hz
      exact absurd hz (nI_ne0 (by omega) (by omega))
    · rw [cf_un z] at hz; exact c q hq hz
/-- a byte of a file that is there is written -/
theorem cf_ok_update {sz gd bs : Nat → Int32} (h : cf_ok sz gd bs) {j o : Nat} {x : Int32} (hj : j < 6) (ho : o < 16) (hs : sz j ≠ 0) : cf_ok sz gd (upd bs (16 * j + o) x) := by
  obtain ⟨a, b, c, d, e, f⟩ := h
  refine ⟨a, b, ?_, d, e, cf_z_upd f (by omega)⟩
  intro q hq hz i hi
  have z : q ≠ j := fun w => hs (w ▸ hz)
  rw [cf_un (by omega)]
  exact c q hq hz i hi
end
section
theorem cf_bo {x : Int32} (h : x = 0 ∨ x = 1) : vp_nar .boolean x = x := by
  rcases h with rfl | rfl <;> rfl
theorem cf_stp {i : Nat} {f g : Nat → Int32} (h : i < 2 ^ 31) : upd (cf_mix i f g) (nI i).toNatClampNeg (f (nI i).toNatClampNeg) = cf_mix (i + 1) f g := by
  rw [nI_clamp h]
  exact cf_mix_s
theorem cf_stpB {i : Nat} {f g : Nat → Int32} (h : i < 2 ^ 31) (hb : f i = 0 ∨ f i = 1) : upd (cf_mix i f g) (nI i).toNatClampNeg (vp_nar .boolean (f (nI i).toNatClampNeg)) = cf_mix (i + 1) f g := by
  rw [nI_clamp h, cf_bo hb]
  exact cf_mix_s
theorem cf_mul (a b : Nat) : nI a * nI b = nI (a * b) := (Int32.ofNat_mul a b).symm
theorem cf_ix (j i : Nat) : (16 : Int32) * nI j + nI i = nI (16 * j + i) := by
  show nI 16 * nI j + nI i = _
  rw [cf_mul, nI_add]
theorem cf_ix12 (j o : Nat) : (12 : Int32) + nI j * 16 + nI o = nI (12 + (16 * j + o)) := by
  show nI 12 + nI j * nI 16 + nI o = _
  rw [cf_mul, nI_add, nI_add]
  exact congrArg nI (by omega)
theorem cf_ix0 (j : Nat) : (0 : Int32) + nI j = nI j := Int32.zero_add _
theorem cf_ix6 (j : Nat) : (6 : Int32) + nI j = nI (6 + j) := nI_add 6 j
/-! the component's copies -/
theorem cf_c_lb {post : SX → Prop} {tr vf op : Int32} {S L B : Nat → Int32} (hL : cf_z 109 L) (hB : cf_z 109 B) (hp : post (tr, vf, op, S, L, L)) : wpX_copy__lasting_before post (tr, vf, op, S, L, B) := by
  refine loop_0 (fun n i s => wX_copy__lasting_before_2 post tr vf op n (nI i) S L s) (fun i s => s = cf_mix i L B) 109 B cf_mix_0.symm ?_ ?_
  · intro n s hs
    have e : s = L := Eq.trans hs (cf_mix_e hL hB)
    rw [e]
    exact br_t (nI_le (a := 109) (b := 109) (by decide) (by decide)) hp
  · intro n i s hi hs ih
    have e : s = cf_mix i L B := hs
    rw [e]
    have hv : vp_in (nI i) 109 := vp_in_nI hi (by decide)
    exact br_f (nI_ge (b := 109) hi (by decide)) ⟨hv, hv, nm_r (cf_stp (by omega)) (nm_r (nI_1 i) (ih (cf_mix (i + 1) L B) rfl))⟩
theorem cf_c_sl {post : SX → Prop} {tr vf op : Int32} {S L B : Nat → Int32} (hS : cf_z 109 S) (hL : cf_z 109 L) (hp : post (tr, vf, op, S, S, B)) : wpX_copy__seen_lasting post (tr, vf, op, S, L, B) := by
  refine loop_0 (fun n i s => wX_copy__seen_lasting_2 post tr vf op n (nI i) S s B) (fun i s => s = cf_mix i S L) 109 L cf_mix_0.symm ?_ ?_
  · intro n s hs
    have e : s = S := Eq.trans hs (cf_mix_e hS hL)
    rw [e]
    exact br_t (nI_le (a := 109) (b := 109) (by decide) (by decide)) hp
  · intro n i s hi hs ih
    have e : s = cf_mix i S L := hs
    rw [e]
    have hv : vp_in (nI i) 109 := vp_in_nI hi (by decide)
    exact br_f (nI_ge (b := 109) hi (by decide)) ⟨hv, hv, nm_r (cf_stp (by omega)) (nm_r (nI_1 i) (ih (cf_mix (i + 1) S L) rfl))⟩
theorem cf_c_ls {post : SX → Prop} {tr vf op : Int32} {S L B : Nat → Int32} (hL : cf_z 109 L) (hS : cf_z 109 S) (hp : post (tr, vf, op, L, L, B)) : wpX_copy__lasting_seen post (tr, vf, op, S, L, B) := by
  refine loop_0 (fun n i s => wX_copy__lasting_seen_2 post tr vf op n (nI i) s L B) (fun i s => s = cf_mix i L S) 109 S cf_mix_0.symm ?_ ?_
  · intro n s hs
    have e : s = L := Eq.trans hs (cf_mix_e hL hS)
    rw [e]
    exact br_t (nI_le (a := 109) (b := 109) (by decide) (by decide)) hp
  · intro n i s hi hs ih
    have e : s = cf_mix i L S := hs
    rw [e]
    have hv : vp_in (nI i) 109 := vp_in_nI hi (by decide)
    exact br_f (nI_ge (b := 109) hi (by decide)) ⟨hv, hv, nm_r (cf_stp (by omega)) (nm_r (nI_1 i) (ih (cf_mix (i + 1) L S) rfl))⟩
theorem cf_c_bl {post : SX → Prop} {tr vf op : Int32} {S L B : Nat → Int32} (hB : cf_z 109 B) (hL : cf_z 109 L) (hp : post (tr, vf, op, S, B, B)) : wpX_copy__before_lasting post (tr, vf, op, S, L, B) := by
  refine loop_0 (fun n i s => wX_copy__before_lasting_2 post tr vf op n (nI i) S s B) (fun i s => s = cf_mix i B L) 109 L cf_mix_0.symm ?_ ?_
  · intro n s hs
    have e : s = B := Eq.trans hs (cf_mix_e hB hL)
    rw [e]
    exact br_t (nI_le (a := 109) (b := 109) (by decide) (by decide)) hp
  · intro n i s hi hs ih
    have e : s = cf_mix i B L := hs
    rw [e]
    have hv : vp_in (nI i) 109 := vp_in_nI hi (by decide)
    exact br_f (nI_ge (b := 109) hi (by decide)) ⟨hv, hv, nm_r (cf_stp (by omega)) (nm_r (nI_1 i) (ih (cf_mix (i + 1) B L) rfl))⟩
theorem cf_ml {post : SX → Prop} {tr vf op : Int32} {S L B : Nat → Int32} (hS : cf_z 109 S) (hL : cf_z 109 L) (hB : cf_z 109 B) (hp : post (tr, vf, op, S, S, L)) : wpX_makeLasting post (tr, vf, op, S, L, B) := by
  unfold wpX_makeLasting
  dsimp only
  refine cf_c_lb hL hB ?_
  dsimp only
  refine cf_c_sl hS hL ?_
  exact hp
theorem cf_fg {post : SX → Prop} {tr vf op : Int32} {S L B : Nat → Int32} (hS : cf_z 109 S) (hL : cf_z 109 L) (hp : post (tr, vf, 0, L, L, B)) : wpX_forgetTransaction post (tr, vf, op, S, L, B) := by
  unfold wpX_forgetTransaction
  dsimp only
  refine cf_c_ls hL hS ?_
  exact hp
theorem cf_pw {post : SX → Prop} {tr vf op : Int32} {S L B : Nat → Int32} (hS : cf_z 109 S) (hL : cf_z 109 L) (hB : cf_z 109 B) (hp : post (tr, 0, 0, L, L, L)) : wpX_power post (tr, vf, op, S, L, B) := by
  unfold wpX_power
  dsimp only
  refine cf_fg hS hL ?_
  dsimp only
  refine cf_c_lb hL hB ?_
  exact hp
/-! the reference's loops -/
theorem cf_keep40 {post : SY → Prop} {cd tr vf op ch oc : Int32} {sz gd bs sn os og ob : Nat → Int32} (h1 : cf_z 96 bs) (h2 : cf_z 96 ob) (hp : post (cd, tr, vf, op, 1, cd, sz, gd, bs, sn, os, og, bs)) : ∃ n : Nat, wY_keep_40 post cd tr vf op ch oc n 0 sz gd bs sn os og ob := by
  refine loop_0 (fun n i s => wY_keep_40 post cd tr vf op ch oc n (nI i) sz gd bs sn os og s) (fun i s => s = cf_mix i bs ob) 96 ob cf_mix_0.symm ?_ ?_
  · intro n s hs
    have e : s = bs := Eq.trans hs (cf_mix_e h1 h2)
    rw [e]
    exact br_t (nI_le (a := 96) (b := 96) (by decide) (by decide)) hp
  · intro n i s hi hs ih
    have e : s = cf_mix i bs ob := hs
    rw [e]
    have hv : vp_in (nI i) 96 := vp_in_nI hi (by decide)
    exact br_f (nI_ge (b := 96) hi (by decide)) ⟨hv, hv, nm_r (cf_stp (by omega)) (nm_r (nI_1 i) (ih (cf_mix (i + 1) bs ob) rfl))⟩
theorem cf_keep {post : SY → Prop} {cd tr vf op ch oc : Int32} {sz gd bs sn os og ob : Nat → Int32} (hk : cf_ok sz gd bs) (h1 : cf_z 6 os) (h2 : cf_z 6 og) (h3 : cf_z 96 ob) (hp : post (cd, tr, vf, op, 1, cd, sz, gd, bs, sn, sz, gd, bs)) : wpY_keep post (cd, tr, vf, op, ch, oc, sz, gd, bs, sn, os, og, ob) := by
  obtain ⟨_, kb, _, kd, ke, kf⟩ := hk
  refine loop_0 (fun n i (s : (Nat → Int32) × (Nat → Int32)) => wY_keep_2 post cd tr vf op ch oc n (nI i) sz gd bs sn s.1 s.2 ob) (fun i s => s = (cf_mix i sz os, cf_mix i gd og)) 6 (os, og) ?_ ?_ ?_
  · show (os, og) = _
    rw [cf_mix_0, cf_mix_0]
  · intro n s hs
    have e : s = (sz, gd) := Eq.trans hs (by rw [cf_mix_e kd h1, cf_mix_e ke h2])
    rw [e]
    exact br_t (nI_le (a := 6) (b := 6) (by decide) (by decide)) (cf_keep40 kf h3 hp)
  · intro n i s hi hs ih
    have e : s = (cf_mix i sz os, cf_mix i gd og) := hs
    rw [e]
    have hv : vp_in (nI i) 6 := vp_in_nI hi (by decide)
    exact br_f (nI_ge (b := 6) hi (by decide)) ⟨hv, hv, nm_r (cf_stp (by omega)) ⟨hv, hv, nm_r (cf_stpB (by omega) (kb i)) (nm_r (nI_1 i) (ih (cf_mix (i + 1) sz os, cf_mix (i + 1) gd og) rfl))⟩⟩
theorem cf_zero {post : Int32 → SY → Prop} {cd tr vf op ch oc : Int32} {sz gd bs sn os og ob : Nat → Int32} {j : Nat} (hj : j < 6) (hb : ∀ i, i < 16 → bs (16 * j + i) = 0) (hp : post 0 (cd, tr, vf, op, ch, oc, sz, gd, bs, sn, os, og, ob)) : ∃ n : Nat, wY_create_62 post (nI j) cd tr vf op ch oc n 0 sz gd bs sn os og ob := by
  refine loop_0 (fun n i s => wY_create_62 post (nI j) cd tr vf op ch oc n (nI i) sz gd s sn os og ob) (fun _ s => s = bs) 16 bs rfl ?_ ?_
  · intro n s hs
    have e : s = bs := hs
    rw [e]
    exact br_t (nI_le (a := 16) (b := 16) (by decide) (by decide)) hp
  · intro n i s hi hs ih
    have e : s = bs := hs
    rw [e]
    have hx : (16 : Int32) * nI j + nI i = nI (16 * j + i) := cf_ix j i
    have hv : vp_in ((16 : Int32) * nI j + nI i) 96 := by rw [hx]; exact vp_in_nI (by omega) (by decide)
    have hu : upd bs ((16 : Int32) * nI j + nI i).toNatClampNeg 0 = bs := by
      rw [hx, nI_clamp (by omega)]
      exact cf_usame (hb i hi)
    exact br_f (nI_ge (b := 16) hi (by decide)) ⟨hv, nm_r hu (nm_r (nI_1 i) (ih bs rfl))⟩
theorem cf_begin17 {post : Int32 → SY → Prop} {cd tr vf op ch oc : Int32} {sz gd bs sn os og ob : Nat → Int32} (h1 : cf_z 96 bs) (h2 : cf_z 96 sn) (hp : post 0 (cd, tr, vf, op, ch, oc, sz, gd, bs, bs, os, og, ob)) : ∃ n : Nat, wY_begin_17 post cd tr vf op ch oc n 0 sz gd bs sn os og ob := by
  refine loop_0 (fun n i s => wY_begin_17 post cd tr vf op ch oc n (nI i) sz gd bs s os og ob) (fun i s => s = cf_mix i bs sn) 96 sn cf_mix_0.symm ?_ ?_
  · intro n s hs
    have e : s = bs := Eq.trans hs (cf_mix_e h1 h2)
    rw [e]
    exact br_t (nI_le (a := 96) (b := 96) (by decide) (by decide)) hp
  · intro n i s hi hs ih
    have e : s = cf_mix i bs sn := hs
    rw [e]
    have hv : vp_in (nI i) 96 := vp_in_nI hi (by decide)
    exact br_f (nI_ge (b := 96) hi (by decide)) ⟨hv, hv, nm_r (cf_stp (by omega)) (nm_r (nI_1 i) (ih (cf_mix (i + 1) bs sn) rfl))⟩
theorem cf_commit16 {post : Int32 → SY → Prop} {cd tr vf op ch oc : Int32} {sz gd bs sn os og ob : Nat → Int32} (h1 : cf_z 96 sn) (h2 : cf_z 96 bs) (hp : post 0 (cd, tr, vf, 0, ch, oc, sz, gd, sn, sn, os, og, ob)) : ∃ n : Nat, wY_commit_16 post cd tr vf op ch oc n 0 sz gd bs sn os og ob := by
  refine loop_0 (fun n i s => wY_commit_16 post cd tr vf op ch oc n (nI i) sz gd s sn os og ob) (fun i s => s = cf_mix i sn bs) 96 bs cf_mix_0.symm ?_ ?_
  · intro n s hs
    have e : s = sn := Eq.trans hs (cf_mix_e h1 h2)
    rw [e]
    exact br_t (nI_le (a := 96) (b := 96) (by decide) (by decide)) hp
  · intro n i s hi hs ih
    have e : s = cf_mix i sn bs := hs
    rw [e]
    have hv : vp_in (nI i) 96 := vp_in_nI hi (by decide)
    exact br_f (nI_ge (b := 96) hi (by decide)) ⟨hv, hv, nm_r (cf_stp (by omega)) (nm_r (nI_1 i) (ih (cf_mix (i + 1) sn bs) rfl))⟩
theorem cf_torn83 {post : SY → Prop} {cd tr vf op ch oc : Int32} {sz gd bs sn os og ob : Nat → Int32} (hp : post (cd, tr, 0, 0, 0, oc, sz, gd, bs, sn, os, og, ob)) : wY_torn_83 post cd tr vf op ch oc sz gd bs sn os og ob := by
  unfold wY_torn_83 wpY_power
  exact hp
theorem cf_torn51 {post : SY → Prop} {cd tr vf op ch oc : Int32} {sz gd bs sn os og ob : Nat → Int32} (h1 : cf_z 96 ob) (h2 : cf_z 96 bs) (hp : post (oc, tr, 0, 0, 0, oc, sz, gd, ob, sn, os, og, ob)) : ∃ n : Nat, wY_torn_51 post cd tr vf op ch oc n 0 sz gd bs sn os og ob := by
  refine loop_0 (fun n i s => wY_torn_51 post cd tr vf op ch oc n (nI i) sz gd s sn os og ob) (fun i s => s = cf_mix i ob bs) 96 bs cf_mix_0.symm ?_ ?_
  · intro n s hs
    have e : s = ob := Eq.trans hs (cf_mix_e h1 h2)
    rw [e]
    exact br_t (nI_le (a := 96) (b := 96) (by decide) (by decide)) (cf_torn83 hp)
  · intro n i s hi hs ih
    have e : s = cf_mix i ob bs := hs
    rw [e]
    have hv : vp_in (nI i) 96 := vp_in_nI hi (by decide)
    exact br_f (nI_ge (b := 96) hi (by decide)) ⟨hv, hv, nm_r (cf_stp (by omega)) (nm_r (nI_1 i) (ih (cf_mix (i + 1) ob bs) rfl))⟩
theorem cf_torn13 {post : SY → Prop} {cd tr vf op ch oc : Int32} {sz gd bs sn os og ob : Nat → Int32} (hk : cf_ok os og ob) (h1 : cf_z 6 sz) (h2 : cf_z 6 gd) (h3 : cf_z 96 bs) (hp : post (oc, tr, 0, 0, 0, oc, os, og, ob, sn, os, og, ob)) : ∃ n : Nat, wY_torn_13 post cd tr vf op ch oc n 0 sz gd bs sn os og ob := by
  obtain ⟨_, kb, _, kd, ke, kf⟩ := hk
  refine loop_0 (fun n i (s : (Nat → Int32) × (Nat → Int32)) => wY_torn_13 post cd tr vf op ch oc n (nI i) s.1 s.2 bs sn os og ob) (fun i s => s = (cf_mix i os sz, cf_mix i og gd)) 6 (sz, gd) ?_ ?_ ?_
  · show (sz, gd) = _
    rw [cf_mix_0, cf_mix_0]
  · intro n s hs
    have e : s = (os, og) := Eq.trans hs (by rw [cf_mix_e kd h1, cf_mix_e ke h2])
    rw [e]
    exact br_t (nI_le (a := 6) (b := 6) (by decide) (by decide)) (cf_torn51 kf h3 hp)
  · intro n i s hi hs ih
    have e : s = (cf_mix i os sz, cf_mix i og gd) := hs
    rw [e]
    have hv : vp_in (nI i) 6 := vp_in_nI hi (by decide)
    exact br_f (nI_ge (b := 6) hi (by decide)) ⟨hv, hv, nm_r (cf_stp (by omega)) ⟨hv, hv, nm_r (cf_stpB (by omega) (kb i)) (nm_r (nI_1 i) (ih (cf_mix (i + 1) os sz, cf_mix (i + 1) og gd) rfl))⟩⟩
end
section
/-- lasting is sizes, guards, bytes, code; seen has the transaction's bytes while one is open; before is what stood before the last change, lasting itself while there is none -/
def cf_R (op ch cd oc : Int32) (sz gd bs sn os og ob S L B : Nat → Int32) : Prop := L = cf_im sz gd bs cd ∧ (op = 0 → S = cf_im sz gd bs cd) ∧ (¬ op = 0 → S = cf_im sz gd sn cd ∧ cf_ok sz gd sn) ∧ (ch = 0 → B = cf_im sz gd bs cd) ∧ (¬ ch = 0 → B = cf_im os og ob oc ∧ cf_ok os og ob) ∧ cf_ok sz gd bs ∧ cf_z 96 sn ∧ cf_z 6 os ∧ cf_z 6 og ∧ cf_z 96 ob
def i_Rel (_ : Nat) (u : SX) (v : SY) : Prop := match u, v with
  | (tr, vf, op, S, L, B), (cd, tr', vf', op', ch, oc, sz, gd, bs, sn, os, og, ob) => tr' = tr ∧ vf' = vf ∧ op' = op ∧ cf_R op ch cd oc sz gd bs sn os og ob S L B
theorem i_up {k : Nat} {u : SX} {v : SY} (h : i_Rel k u v) : i_Rel (k + 4) u v := h
theorem cf_im_0 : cf_im (fun _ => 0) (fun _ => 0) (fun _ => 0) 0 = fun _ => 0 := by
  funext j
  dsimp only [cf_im]
  simp only [ite_self]
theorem cf_0ne : ¬ (1 : Int32) = 0 := by decide
/-- after a change outside a transaction, or a commit -/
theorem cf_R_new {op cd cd' : Int32} {sz gd bs sz' gd' bs' sn : Nat → Int32} (h0 : op = 0) (ok : cf_ok sz gd bs) (ok' : cf_ok sz' gd' bs') (zs : cf_z 96 sn) : cf_R op 1 cd' cd sz' gd' bs' sn sz gd bs (cf_im sz' gd' bs' cd') (cf_im sz' gd' bs' cd') (cf_im sz gd bs cd) :=
  ⟨rfl, fun _ => rfl, fun h => absurd h0 h, fun h => absurd h cf_0ne, fun _ => ⟨rfl, ok⟩, ok', zs, ok.2.2.2.1, ok.2.2.2.2.1, ok.2.2.2.2.2⟩
/-- after power and torn -/
theorem cf_R_pow {cd oc : Int32} {sz gd bs sn os og ob : Nat → Int32} (ok : cf_ok sz gd bs) (zs : cf_z 96 sn) (z1 : cf_z 6 os) (z2 : cf_z 6 og) (z3 : cf_z 96 ob) : cf_R 0 0 cd oc sz gd bs sn os og ob (cf_im sz gd bs cd) (cf_im sz gd bs cd) (cf_im sz gd bs cd) :=
  ⟨rfl, fun _ => rfl, fun h => absurd rfl h, fun _ => rfl, fun h => absurd rfl h, ok, zs, z1, z2, z3⟩
theorem cf_R_B {op ch cd oc : Int32} {sz gd bs sn os og ob S L B : Nat → Int32} (R : cf_R op ch cd oc sz gd bs sn os og ob S L B) : cf_z 109 B := by
  obtain ⟨_, _, _, r4, r5, _⟩ := R
  by_cases h : ch = 0
  · rw [r4 h]; exact cf_im_z
  · rw [(r5 h).1]; exact cf_im_z
/-- the bytes that calls see -/
theorem cf_R_S {op ch cd oc : Int32} {sz gd bs sn os og ob S L B : Nat → Int32} (R : cf_R op ch cd oc sz gd bs sn os og ob S L B) : ∃ bx : Nat → Int32, S = cf_im sz gd bx cd ∧ cf_ok sz gd bx ∧ (op = 0 → bx = bs) ∧ (¬ op = 0 → bx = sn) := by
  obtain ⟨_, r2, r3, _, _, r6, _⟩ := R
  by_cases h : op = 0
  · exact ⟨bs, r2 h, r6, fun _ => rfl, fun z => absurd h z⟩
  · exact ⟨sn, (r3 h).1, (r3 h).2, fun z => absurd z h, fun _ => rfl⟩
theorem i_vc0 : wpX_init (fun u => wpY_init (fun v => i_Rel 0 u v)) := by
  unfold wpX_init wpY_init
  have e : upd (fun _ => 0) 108 1234 = cf_im (fun _ => 0) (fun _ => 0) (fun _ => 0) 1234 := by
    rw [← cf_im_0, cf_up_cd]
  rw [e]
  exact nm_e (nm_e (nm_e ⟨rfl, rfl, rfl, cf_R_pow cf_ok_0 cf_z_0 cf_z_0 cf_z_0 cf_z_0⟩))
theorem i_vc_begin {k : Nat} {u : SX} {v : SY} (I : i_Rel k u v) (hk : k + 4 ≤ 2048) : wpX_begin (fun r u' => wpY_begin (fun r' v' => r' = r ∧ i_Rel (k + 4) u' v') v) u := by
  obtain ⟨tr, vf, op, S, L, B⟩ := u
  obtain ⟨cd, tr', vf', op', ch, oc, sz, gd, bs, sn, os, og, ob⟩ := v
  obtain ⟨rfl, rfl, rfl, R⟩ := I
  by_cases h : op' = 0
  · obtain ⟨r1, r2, r3, r4, r5, r6, r7, r8, r9, r10⟩ := R
    refine br_t h (br_t h (cf_begin17 r6.2.2.2.2.2 r7 ⟨rfl, rfl, rfl, rfl, ?_⟩))
    exact ⟨r1, fun z => absurd z cf_0ne, fun _ => ⟨r2 h, r6⟩, r4, r5, r6, r6.2.2.2.2.2, r8, r9, r10⟩
  · exact br_f h (br_f h ⟨rfl, rfl, rfl, rfl, R⟩)
theorem i_vc_commit {k : Nat} {u : SX} {v : SY} (I : i_Rel k u v) (hk : k + 4 ≤ 2048) : wpX_commit (fun r u' => wpY_commit (fun r' v' => r' = r ∧ i_Rel (k + 4) u' v') v) u := by
  obtain ⟨tr, vf, op, S, L, B⟩ := u
  obtain ⟨cd, tr', vf', op', ch, oc, sz, gd, bs, sn, os, og, ob⟩ := v
  obtain ⟨rfl, rfl, rfl, R⟩ := I
  by_cases h : op' = 0
  · exact br_t h (br_t h ⟨rfl, rfl, rfl, rfl, R⟩)
  · have hB := cf_R_B R
    obtain ⟨rfl, r2, r3, r4, r5, r6, r7, r8, r9, r10⟩ := R
    obtain ⟨rfl, k3⟩ := r3 h
    refine br_f h (cf_ml cf_im_z cf_im_z hB ?_)
    refine br_f h (cf_keep r6 r8 r9 r10 ?_)
    refine cf_commit16 r7 r6.2.2.2.2.2 ?_
    exact ⟨rfl, rfl, rfl, rfl, cf_R_new rfl r6 k3 r7⟩
theorem i_vc_abort {k : Nat} {u : SX} {v : SY} (I : i_Rel k u v) (hk : k + 4 ≤ 2048) : wpX_abort (fun r u' => wpY_abort (fun r' v' => r' = r ∧ i_Rel (k + 4) u' v') v) u := by
  obtain ⟨tr, vf, op, S, L, B⟩ := u
  obtain ⟨cd, tr', vf', op', ch, oc, sz, gd, bs, sn, os, og, ob⟩ := v
  obtain ⟨rfl, rfl, rfl, R⟩ := I
  by_cases h : op' = 0
  · exact br_t h (br_t h ⟨rfl, rfl, rfl, rfl, R⟩)
  · obtain ⟨rfl, r2, r3, r4, r5, r6, r7, r8, r9, r10⟩ := R
    obtain ⟨rfl, k3⟩ := r3 h
    refine br_f h (cf_fg cf_im_z cf_im_z ?_)
    refine br_f h ⟨rfl, rfl, rfl, rfl, ?_⟩
    exact ⟨rfl, fun _ => rfl, fun z => absurd rfl z, r4, r5, r6, r7, r8, r9, r10⟩
theorem i_vc_verify {k : Nat} {u : SX} {v : SY} (I : i_Rel k u v) (hk : k + 4 ≤ 2048) (v1 : Int32) : wpX_verify (fun r u' => wpY_verify (fun r' v' => r' = r ∧ i_Rel (k + 4) u' v') v v1) u v1 := by
  obtain ⟨tr, vf, op, S, L, B⟩ := u
  obtain ⟨cd, tr', vf', op', ch, oc, sz, gd, bs, sn, os, og, ob⟩ := v
  obtain ⟨rfl, rfl, rfl, R⟩ := I
  by_cases h : tr' = 0
  · exact br_t h (br_t h ⟨rfl, rfl, rfl, rfl, R⟩)
  · obtain ⟨bx, e, _⟩ := cf_R_S R
    have c : S 108 = cd := by rw [e, cf_im_cd]
    by_cases z : v1 = cd
    · refine br_f h (br_t (z.trans c.symm) ⟨rfl, rfl, br_f cf_0ne ?_⟩)
      exact br_f h (br_t z ⟨rfl, rfl, br_f cf_0ne ⟨rfl, rfl, rfl, rfl, R⟩⟩)
    · refine br_f h (br_f (fun w => z (w.trans c)) ⟨rfl, rfl, br_t rfl (nm_e ?_)⟩)
      exact br_f h (br_f z ⟨rfl, rfl, br_t rfl (nm_e ⟨rfl, rfl, rfl, rfl, R⟩)⟩)
theorem i_vc_change {k : Nat} {u : SX} {v : SY} (I : i_Rel k u v) (hk : k + 4 ≤ 2048) (v1 : Int32) : wpX_change (fun r u' => wpY_change (fun r' v' => r' = r ∧ i_Rel (k + 4) u' v') v v1) u v1 := by
  obtain ⟨tr, vf, op, S, L, B⟩ := u
  obtain ⟨cd, tr', vf', op', ch, oc, sz, gd, bs, sn, os, og, ob⟩ := v
  obtain ⟨rfl, rfl, rfl, R⟩ := I
  by_cases h0 : v1 < 0
  · exact br_t h0 (br_t h0 ⟨rfl, rfl, rfl, rfl, R⟩)
  by_cases h9 : v1 ≤ 9999
  · by_cases hv : vf' = 0
    · exact br_f h0 (br_t h9 (br_t hv (br_f h0 (br_t h9 (br_t hv ⟨rfl, rfl, rfl, rfl, R⟩)))))
    by_cases h : op' = 0
    · have hB := cf_R_B R
      obtain ⟨rfl, r2, r3, r4, r5, r6, r7, r8, r9, r10⟩ := R
      obtain rfl := r2 h
      refine br_f h0 (br_t h9 (br_f hv (br_t h (nm_r cf_up_cd (cf_ml cf_im_z cf_im_z hB ?_)))))
      refine br_f h0 (br_t h9 (br_f hv (br_t h (cf_keep r6 r8 r9 r10 ?_))))
      exact ⟨rfl, rfl, rfl, rfl, cf_R_new h r6 r6 r7⟩
    · exact br_f h0 (br_t h9 (br_f hv (br_f h (br_f h0 (br_t h9 (br_f hv (br_f h ⟨rfl, rfl, rfl, rfl, R⟩)))))))
  · exact br_f h0 (br_f h9 (br_f h0 (br_f h9 ⟨rfl, rfl, rfl, rfl, R⟩)))
theorem i_vc_power {k : Nat} {u : SX} {v : SY} (I : i_Rel k u v) (hk : k + 4 ≤ 2048) : wpX_power (fun u' => wpY_power (fun v' => i_Rel (k + 4) u' v') v) u := by
  obtain ⟨tr, vf, op, S, L, B⟩ := u
  obtain ⟨cd, tr', vf', op', ch, oc, sz, gd, bs, sn, os, og, ob⟩ := v
  obtain ⟨rfl, rfl, rfl, R⟩ := I
  have hB := cf_R_B R
  obtain ⟨bx, rfl, _⟩ := cf_R_S R
  obtain ⟨rfl, r2, r3, r4, r5, r6, r7, r8, r9, r10⟩ := R
  refine cf_pw cf_im_z cf_im_z hB ?_
  exact ⟨rfl, rfl, rfl, cf_R_pow r6 r7 r8 r9 r10⟩
theorem cf_xtorn15 {post : SX → Prop} {tr vf op : Int32} {S L B : Nat → Int32} (hS : cf_z 109 S) (hL : cf_z 109 L) (hB : cf_z 109 B) (hp : post (tr, 0, 0, L, L, L)) : wX_torn_15 post tr vf op S L B := by
  unfold wX_torn_15
  refine cf_pw hS hL hB ?_
  exact hp
theorem i_vc_torn {k : Nat} {u : SX} {v : SY} (I : i_Rel k u v) (hk : k + 4 ≤ 2048) (v1 : Int32) (v2 : Int32) : wpX_torn (fun u' => wpY_torn (fun v' => i_Rel (k + 4) u' v') v (lw_bz v1) v2) u (lw_bz v1) v2 := by
  obtain ⟨tr, vf, op, S, L, B⟩ := u
  obtain ⟨cd, tr', vf', op', ch, oc, sz, gd, bs, sn, os, og, ob⟩ := v
  obtain ⟨rfl, rfl, rfl, R⟩ := I
  have hB := cf_R_B R
  obtain ⟨bx, rfl, _⟩ := cf_R_S R
  obtain ⟨rfl, r2, r3, r4, r5, r6, r7, r8, r9, r10⟩ := R
  by_cases m : lw_bz v1 = 0
  · refine br_t m (cf_c_bl hB cf_im_z ?_)
    refine cf_xtorn15 cf_im_z hB hB ?_
    by_cases c : ch = 0
    · obtain rfl := r4 c
      exact br_t c (cf_torn83 ⟨rfl, rfl, rfl, cf_R_pow r6 r7 r8 r9 r10⟩)
    · obtain ⟨rfl, k5⟩ := r5 c
      exact br_f c (br_t m (cf_torn13 k5 r6.2.2.2.1 r6.2.2.2.2.1 r6.2.2.2.2.2 ⟨rfl, rfl, rfl, cf_R_pow k5 r7 r8 r9 r10⟩))
  · refine br_f m (cf_xtorn15 cf_im_z cf_im_z hB ?_)
    by_cases c : ch = 0
    · exact br_t c (cf_torn83 ⟨rfl, rfl, rfl, cf_R_pow r6 r7 r8 r9 r10⟩)
    · exact br_f c (br_f m (cf_torn83 ⟨rfl, rfl, rfl, cf_R_pow r6 r7 r8 r9 r10⟩))
theorem i_vc_state {k : Nat} {u : SX} {v : SY} (I : i_Rel k u v) (hk : k + 4 ≤ 2048) : wpX_state (fun r => wpY_state (fun r' => r' = r ∧ i_Rel (k + 4) u v) v) u := by
  obtain ⟨tr, vf, op, S, L, B⟩ := u
  obtain ⟨cd, tr', vf', op', ch, oc, sz, gd, bs, sn, os, og, ob⟩ := v
  obtain ⟨rfl, rfl, rfl, R⟩ := I
  by_cases h : vf' = 0
  · exact br_t h (br_t h ⟨Int32.add_zero _, rfl, rfl, rfl, R⟩)
  · exact br_f h (br_f h ⟨rfl, rfl, rfl, rfl, R⟩)
end
