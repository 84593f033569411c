/-- the picture that the component keeps of sizes, guards, bytes and code: one array of 109 cells -/
def cf_im (sz gd bs : Nat → Int32) (cd : Int32) : Nat → Int32 := fun j => if j < 6 then sz j else if j < 12 then gd (j - 6) else if j < 108 then bs (j - 12) else if j = 108 then cd else 0
/-- beyond its length an array's picture is 0 -/
def cf_z (n : Nat) (f : Nat → Int32) : Prop := ∀ j, n ≤ j → f j = 0
/-- sizes from 0 to 16, guards 0 or 1, the bytes of a file that is not there 0, nothing beyond the lengths -/
def cf_ok (sz gd bs : Nat → Int32) : Prop := (∀ j, j < 6 → ∃ s : Nat, s ≤ 16 ∧ sz j = nI s) ∧ (∀ j, gd j = 0 ∨ gd j = 1) ∧ (∀ j, j < 6 → sz j = 0 → ∀ i, i < 16 → bs (16 * j + i) = 0) ∧ cf_z 6 sz ∧ cf_z 6 gd ∧ cf_z 96 bs
theorem cf_us {f : Nat → Int32} {k : Nat} {x : Int32} : upd f k x k = x := if_pos rfl
theorem cf_un {f : Nat → Int32} {k j : Nat} {x : Int32} (h : j ≠ k) : upd f k x j = f j := if_neg h
theorem cf_usame {f : Nat → Int32} {k : Nat} {x : Int32} (h : f k = x) : upd f k x = f := by
  funext j
  by_cases e : j = k
  · subst e; rw [cf_us, h]
  · rw [cf_un e]
theorem cf_im_z {sz gd bs : Nat → Int32} {cd : Int32} : cf_z 109 (cf_im sz gd bs cd) := by
  intro j h
  dsimp only [cf_im]
  rw [if_neg (by omega), if_neg (by omega), if_neg (by omega), if_neg (by omega)]
theorem cf_im_sz {sz gd bs : Nat → Int32} {cd : Int32} {j : Nat} (h : j < 6) : cf_im sz gd bs cd j = sz j := by
  dsimp only [cf_im]
  rw [if_pos h]
theorem cf_im_gd {sz gd bs : Nat → Int32} {cd : Int32} {j : Nat} (h : j < 6) : cf_im sz gd bs cd (6 + j) = gd j := by
  dsimp only [cf_im]
  rw [if_neg (by omega), if_pos (by omega), Nat.add_sub_cancel_left]
theorem cf_im_bs {sz gd bs : Nat → Int32} {cd : Int32} {j : Nat} (h : j < 96) : cf_im sz gd bs cd (12 + j) = bs j := by
  dsimp only [cf_im]
  rw [if_neg (by omega), if_neg (by omega), if_pos (by omega), Nat.add_sub_cancel_left]
theorem cf_im_cd {sz gd bs : Nat → Int32} {cd : Int32} : cf_im sz gd bs cd 108 = cd := by
  dsimp only [cf_im]
  rw [if_neg (by omega), if_neg (by omega), if_neg (by omega), if_pos rfl]
theorem cf_up_sz {sz gd bs : Nat → Int32} {cd x : Int32} {j : Nat} (h : j < 6) : upd (cf_im sz gd bs cd) j x = cf_im (upd sz j x) gd bs cd := by
  funext i
  dsimp only [upd, cf_im]
  by_cases e : i = j
  · subst e
    rw [if_pos rfl, if_pos h, if_pos rfl]
  · rw [if_neg e]
    by_cases a : i < 6
    · rw [if_pos a, if_pos a, if_neg e]
    · rw [if_neg a, if_neg a]
theorem cf_up_gd {sz gd bs : Nat → Int32} {cd x : Int32} {j : Nat} (h : j < 6) : upd (cf_im sz gd bs cd) (6 + j) x = cf_im sz (upd gd j x) bs cd := by
  funext i
  dsimp only [upd, cf_im]
  by_cases e : i = 6 + j
  · subst e
    rw [if_pos rfl, if_neg (by omega), if_pos (by omega), if_pos (by omega)]
  · rw [if_neg e]
    by_cases a : i < 6
    · rw [if_pos a, if_pos a]
    · rw [if_neg a, if_neg a]
      by_cases b : i < 12
      · rw [if_pos b, if_pos b, if_neg (by omega)]
      · rw [if_neg b, if_neg b]
theorem cf_up_bs {sz gd bs : Nat → Int32} {cd x : Int32} {j : Nat} (h : j < 96) : upd (cf_im sz gd bs cd) (12 + j) x = cf_im sz gd (upd bs j x) cd := by
  funext i
  dsimp only [upd, cf_im]
  by_cases e : i = 12 + j
  · subst e
    rw [if_pos rfl, if_neg (by omega), if_neg (by omega), if_pos (by omega), if_pos (by omega)]
  · rw [if_neg e]
    by_cases a : i < 6
    · rw [if_pos a, if_pos a]
    · rw [if_neg a, if_neg a]
      by_cases b : i < 12
      · rw [if_pos b, if_pos b]
      · rw [if_neg b, if_neg b]
        by_cases c : i < 108
        · rw [if_pos c, if_pos c, if_neg (by omega)]
        · rw [if_neg c, if_neg c]
theorem cf_up_cd {sz gd bs : Nat → Int32} {cd x : Int32} : upd (cf_im sz gd bs cd) 108 x = cf_im sz gd bs x := by
  funext i
  dsimp only [upd, cf_im]
  by_cases e : i = 108
  · subst e
    rw [if_pos rfl, if_neg (by omega), if_neg (by omega), if_neg (by omega), if_pos rfl]
  · rw [if_neg e, if_neg e, if_neg e]
/-- the first i cells are f's, the others g's -/
def cf_mix (i : Nat) (f g : Nat → Int32) : Nat → Int32 := fun j => if j < i then f j else g j
theorem cf_mix_0 {f g : Nat → Int32} : cf_mix 0 f g = g := by
  funext j
  exact if_neg (Nat.not_lt_zero j)
theorem cf_mix_s {i : Nat} {f g : Nat → Int32} : upd (cf_mix i f g) i (f i) = cf_mix (i + 1) f g := by
  funext j
  dsimp only [upd, cf_mix]
  by_cases e : j = i
  · subst e
    rw [if_pos rfl, if_pos (by omega)]
  · rw [if_neg e]
    by_cases a : j < i
    · rw [if_pos a, if_pos (by omega)]
    · rw [if_neg a, if_neg (by omega)]
theorem cf_mix_e {n : Nat} {f g : Nat → Int32} (hf : cf_z n f) (hg : cf_z n g) : cf_mix n f g = f := by
  funext j
  dsimp only [cf_mix]
  by_cases a : j < n
  · rw [if_pos a]
  · rw [if_neg a, hf j (by omega), hg j (by omega)]
theorem cf_z_upd {n k : Nat} {f : Nat → Int32} {x : Int32} (h : cf_z n f) (hk : k < n) : cf_z n (upd f k x) := by
  intro j hj
  rw [cf_un (by omega)]
  exact h j hj
theorem cf_z_0 {n : Nat} : cf_z n (fun _ => 0) := fun _ _ => rfl
theorem cf_ok_0 : cf_ok (fun _ => 0) (fun _ => 0) (fun _ => 0) :=
  ⟨fun _ _ => ⟨0, Nat.zero_le _, nI_0.symm⟩, fun _ => Or.inl rfl, fun _ _ _ _ _ => rfl, cf_z_0, cf_z_0, cf_z_0⟩
/-- a file is made -/
theorem cf_ok_create {sz gd bs : Nat → Int32} (h : cf_ok sz gd bs) {j s : Nat} {g : Int32} (hj : j < 6) (h1 : 1 ≤ s) (h2 : s ≤ 16) (hg : g = 0 ∨ g = 1) : cf_ok (upd sz j (nI s)) (upd gd j g) bs := by
  obtain ⟨a, b, c, d, e, f⟩ := h
  refine ⟨?_, ?_, ?_, cf_z_upd d hj, cf_z_upd e hj, f⟩
  · intro q hq
    by_cases z : q = j
    · subst z; rw [cf_us]; exact ⟨s, h2, rfl⟩
    · rw [cf_un z]; exact a q hq
  · intro q
    by_cases z : q = j
    · subst z; rw [cf_us]; exact hg
    · rw [cf_un z]; exact b q
  · intro q hq hz
    by_cases z : q = j
    · subst z
      rw [cf_us] at hz
      exact absurd hz (nI_ne0 (by omega) (by omega))
    · rw [cf_un z] at hz; exact c q hq hz
/-- a byte of a file that is there is written -/
theorem cf_ok_update {sz gd bs : Nat → Int32} (h : cf_ok sz gd bs) {j o : Nat} {x : Int32} (hj : j < 6) (ho : o < 16) (hs : sz j ≠ 0) : cf_ok sz gd (upd bs (16 * j + o) x) := by
  obtain ⟨a, b, c, d, e, f⟩ := h
  refine ⟨a, b, ?_, d, e, cf_z_upd f (by omega)⟩
  intro q hq hz i hi
  have z : q ≠ j := fun w => hs (w ▸ hz)
  rw [cf_un (by omega)]
  exact c q hq hz i hi
