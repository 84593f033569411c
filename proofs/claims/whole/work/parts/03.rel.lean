/-- lasting is sizes, guards, bytes, code; seen has the transaction's bytes while one is open; before is what stood before the last change, lasting itself while there is none -/
def cf_R (op ch cd oc : Int32) (sz gd bs sn os og ob S L B : Nat → Int32) : Prop := L = cf_im sz gd bs cd ∧ (op = 0 → S = cf_im sz gd bs cd) ∧ (¬ op = 0 → S = cf_im sz gd sn cd ∧ cf_ok sz gd sn) ∧ (ch = 0 → B = cf_im sz gd bs cd) ∧ (¬ ch = 0 → B = cf_im os og ob oc ∧ cf_ok os og ob) ∧ cf_ok sz gd bs ∧ cf_z 96 sn ∧ cf_z 6 os ∧ cf_z 6 og ∧ cf_z 96 ob
def i_Rel (_ : Nat) (u : SX) (v : SY) : Prop := match u, v with
  | (tr, vf, op, S, L, B), (cd, tr', vf', op', ch, oc, sz, gd, bs, sn, os, og, ob) => tr' = tr ∧ vf' = vf ∧ op' = op ∧ cf_R op ch cd oc sz gd bs sn os og ob S L B
theorem i_up {k : Nat} {u : SX} {v : SY} (h : i_Rel k u v) : i_Rel (k + 4) u v := h
theorem cf_im_0 : cf_im (fun _ => 0) (fun _ => 0) (fun _ => 0) 0 = fun _ => 0 := by
  funext j
  dsimp only [cf_im]
  simp only [ite_self]
theorem cf_0ne : ¬ (1 : Int32) = 0 := by decide
/-- after a change outside a transaction, or a commit -/
theorem cf_R_new {op cd cd' : Int32} {sz gd bs sz' gd' bs' sn : Nat → Int32} (h0 : op = 0) (ok : cf_ok sz gd bs) (ok' : cf_ok sz' gd' bs') (zs : cf_z 96 sn) : cf_R op 1 cd' cd sz' gd' bs' sn sz gd bs (cf_im sz' gd' bs' cd') (cf_im sz' gd' bs' cd') (cf_im sz gd bs cd) :=
  ⟨rfl, fun _ => rfl, fun h => absurd h0 h, fun h => absurd h cf_0ne, fun _ => ⟨rfl, ok⟩, ok', zs, ok.2.2.2.1, ok.2.2.2.2.1, ok.2.2.2.2.2⟩
/-- after power and torn -/
theorem cf_R_pow {cd oc : Int32} {sz gd bs sn os og ob : Nat → Int32} (ok : cf_ok sz gd bs) (zs : cf_z 96 sn) (z1 : cf_z 6 os) (z2 : cf_z 6 og) (z3 : cf_z 96 ob) : cf_R 0 0 cd oc sz gd bs sn os og ob (cf_im sz gd bs cd) (cf_im sz gd bs cd) (cf_im sz gd bs cd) :=
  ⟨rfl, fun _ => rfl, fun h => absurd rfl h, fun _ => rfl, fun h => absurd rfl h, ok, zs, z1, z2, z3⟩
theorem cf_R_B {op ch cd oc : Int32} {sz gd bs sn os og ob S L B : Nat → Int32} (R : cf_R op ch cd oc sz gd bs sn os og ob S L B) : cf_z 109 B := by
  obtain ⟨_, _, _, r4, r5, _⟩ := R
  by_cases h : ch = 0
  · rw [r4 h]; exact cf_im_z
  · rw [(r5 h).1]; exact cf_im_z
/-- the bytes that calls see -/
theorem cf_R_S {op ch cd oc : Int32} {sz gd bs sn os og ob S L B : Nat → Int32} (R : cf_R op ch cd oc sz gd bs sn os og ob S L B) : ∃ bx : Nat → Int32, S = cf_im sz gd bx cd ∧ cf_ok sz gd bx ∧ (op = 0 → bx = bs) ∧ (¬ op = 0 → bx = sn) := by
  obtain ⟨_, r2, r3, _, _, r6, _⟩ := R
  by_cases h : op = 0
  · exact ⟨bs, r2 h, r6, fun _ => rfl, fun z => absurd h z⟩
  · exact ⟨sn, (r3 h).1, (r3 h).2, fun z => absurd z h, fun _ => rfl⟩
theorem i_vc0 : wpX_init (fun u => wpY_init (fun v => i_Rel 0 u v)) := by
  unfold wpX_init wpY_init
  have e : upd (fun _ => 0) 108 1234 = cf_im (fun _ => 0) (fun _ => 0) (fun _ => 0) 1234 :=
    (congrArg (fun f => upd f 108 1234) cf_im_0.symm).trans cf_up_cd
  rw [e]
  exact nm_e (nm_e (nm_e ⟨rfl, rfl, rfl, cf_R_pow cf_ok_0 cf_z_0 cf_z_0 cf_z_0 cf_z_0⟩))
theorem i_vc_begin {k : Nat} {u : SX} {v : SY} (I : i_Rel k u v) (hk : k + 4 ≤ 2048) : wpX_begin (fun r u' => wpY_begin (fun r' v' => r' = r ∧ i_Rel (k + 4) u' v') v) u := by
  obtain ⟨tr, vf, op, S, L, B⟩ := u
  obtain ⟨cd, tr', vf', op', ch, oc, sz, gd, bs, sn, os, og, ob⟩ := v
  obtain ⟨rfl, rfl, rfl, R⟩ := I
  by_cases h : op' = 0
  · obtain ⟨r1, r2, r3, r4, r5, r6, r7, r8, r9, r10⟩ := R
    refine br_t h (br_t h (cf_begin17 r6.2.2.2.2.2 r7 ⟨rfl, rfl, rfl, rfl, ?_⟩))
    exact ⟨r1, fun z => absurd z cf_0ne, fun _ => ⟨r2 h, r6⟩, r4, r5, r6, r6.2.2.2.2.2, r8, r9, r10⟩
  · exact br_f h (br_f h ⟨rfl, rfl, rfl, rfl, R⟩)
theorem i_vc_commit {k : Nat} {u : SX} {v : SY} (I : i_Rel k u v) (hk : k + 4 ≤ 2048) : wpX_commit (fun r u' => wpY_commit (fun r' v' => r' = r ∧ i_Rel (k + 4) u' v') v) u := by
  obtain ⟨tr, vf, op, S, L, B⟩ := u
  obtain ⟨cd, tr', vf', op', ch, oc, sz, gd, bs, sn, os, og, ob⟩ := v
  obtain ⟨rfl, rfl, rfl, R⟩ := I
  by_cases h : op' = 0
  · exact br_t h (br_t h ⟨rfl, rfl, rfl, rfl, R⟩)
  · have hB := cf_R_B R
    obtain ⟨rfl, r2, r3, r4, r5, r6, r7, r8, r9, r10⟩ := R
    obtain ⟨rfl, k3⟩ := r3 h
    refine br_f h (cf_ml cf_im_z cf_im_z hB ?_)
    refine br_f h (cf_keep r6 r8 r9 r10 ?_)
    refine cf_commit16 r7 r6.2.2.2.2.2 ?_
    exact ⟨rfl, rfl, rfl, rfl, cf_R_new rfl r6 k3 r7⟩
theorem i_vc_abort {k : Nat} {u : SX} {v : SY} (I : i_Rel k u v) (hk : k + 4 ≤ 2048) : wpX_abort (fun r u' => wpY_abort (fun r' v' => r' = r ∧ i_Rel (k + 4) u' v') v) u := by
  obtain ⟨tr, vf, op, S, L, B⟩ := u
  obtain ⟨cd, tr', vf', op', ch, oc, sz, gd, bs, sn, os, og, ob⟩ := v
  obtain ⟨rfl, rfl, rfl, R⟩ := I
  by_cases h : op' = 0
  · exact br_t h (br_t h ⟨rfl, rfl, rfl, rfl, R⟩)
  · obtain ⟨rfl, r2, r3, r4, r5, r6, r7, r8, r9, r10⟩ := R
    obtain ⟨rfl, k3⟩ := r3 h
    refine br_f h (cf_fg cf_im_z cf_im_z ?_)
    refine br_f h ⟨rfl, rfl, rfl, rfl, ?_⟩
    exact ⟨rfl, fun _ => rfl, fun z => absurd rfl z, r4, r5, r6, r7, r8, r9, r10⟩
theorem i_vc_verify {k : Nat} {u : SX} {v : SY} (I : i_Rel k u v) (hk : k + 4 ≤ 2048) (v1 : Int32) : wpX_verify (fun r u' => wpY_verify (fun r' v' => r' = r ∧ i_Rel (k + 4) u' v') v v1) u v1 := by
  obtain ⟨tr, vf, op, S, L, B⟩ := u
  obtain ⟨cd, tr', vf', op', ch, oc, sz, gd, bs, sn, os, og, ob⟩ := v
  obtain ⟨rfl, rfl, rfl, R⟩ := I
  by_cases h : tr' = 0
  · exact br_t h (br_t h ⟨rfl, rfl, rfl, rfl, R⟩)
  · obtain ⟨bx, e, _⟩ := cf_R_S R
    have c : S 108 = cd := by rw [e, cf_im_cd]
    by_cases z : v1 = cd
    · refine br_f h (br_t (z.trans c.symm) ⟨rfl, rfl, br_f cf_0ne ?_⟩)
      exact br_f h (br_t z ⟨rfl, rfl, br_f cf_0ne ⟨rfl, rfl, rfl, rfl, R⟩⟩)
    · refine br_f h (br_f (fun w => z (w.trans c)) ⟨rfl, rfl, br_t rfl (nm_e ?_)⟩)
      exact br_f h (br_f z ⟨rfl, rfl, br_t rfl (nm_e ⟨rfl, rfl, rfl, rfl, R⟩)⟩)
theorem i_vc_change {k : Nat} {u : SX} {v : SY} (I : i_Rel k u v) (hk : k + 4 ≤ 2048) (v1 : Int32) : wpX_change (fun r u' => wpY_change (fun r' v' => r' = r ∧ i_Rel (k + 4) u' v') v v1) u v1 := by
  obtain ⟨tr, vf, op, S, L, B⟩ := u
  obtain ⟨cd, tr', vf', op', ch, oc, sz, gd, bs, sn, os, og, ob⟩ := v
  obtain ⟨rfl, rfl, rfl, R⟩ := I
  by_cases h0 : v1 < 0
  · exact br_t h0 (br_t h0 ⟨rfl, rfl, rfl, rfl, R⟩)
  by_cases h9 : v1 ≤ 9999
  · by_cases hv : vf' = 0
    · exact br_f h0 (br_t h9 (br_t hv (br_f h0 (br_t h9 (br_t hv ⟨rfl, rfl, rfl, rfl, R⟩)))))
    by_cases h : op' = 0
    · have hB := cf_R_B R
      obtain ⟨rfl, r2, r3, r4, r5, r6, r7, r8, r9, r10⟩ := R
      obtain rfl := r2 h
      refine br_f h0 (br_t h9 (br_f hv (br_t h (nm_r cf_up_cd (cf_ml cf_im_z cf_im_z hB ?_)))))
      refine br_f h0 (br_t h9 (br_f hv (br_t h (cf_keep r6 r8 r9 r10 ?_))))
      exact ⟨rfl, rfl, rfl, rfl, cf_R_new h r6 r6 r7⟩
    · exact br_f h0 (br_t h9 (br_f hv (br_f h (br_f h0 (br_t h9 (br_f hv (br_f h ⟨rfl, rfl, rfl, rfl, R⟩)))))))
  · exact br_f h0 (br_f h9 (br_f h0 (br_f h9 ⟨rfl, rfl, rfl, rfl, R⟩)))
theorem i_vc_power {k : Nat} {u : SX} {v : SY} (I : i_Rel k u v) (hk : k + 4 ≤ 2048) : wpX_power (fun u' => wpY_power (fun v' => i_Rel (k + 4) u' v') v) u := by
  obtain ⟨tr, vf, op, S, L, B⟩ := u
  obtain ⟨cd, tr', vf', op', ch, oc, sz, gd, bs, sn, os, og, ob⟩ := v
  obtain ⟨rfl, rfl, rfl, R⟩ := I
  have hB := cf_R_B R
  obtain ⟨bx, rfl, _⟩ := cf_R_S R
  obtain ⟨rfl, r2, r3, r4, r5, r6, r7, r8, r9, r10⟩ := R
  refine cf_pw cf_im_z cf_im_z hB ?_
  exact ⟨rfl, rfl, rfl, cf_R_pow r6 r7 r8 r9 r10⟩
theorem cf_xtorn15 {post : SX → Prop} {tr vf op : Int32} {S L B : Nat → Int32} (hS : cf_z 109 S) (hL : cf_z 109 L) (hB : cf_z 109 B) (hp : post (tr, 0, 0, L, L, L)) : wX_torn_15 post tr vf op S L B := by
  unfold wX_torn_15
  refine cf_pw hS hL hB ?_
  exact hp
theorem i_vc_torn {k : Nat} {u : SX} {v : SY} (I : i_Rel k u v) (hk : k + 4 ≤ 2048) (v1 : Int32) (v2 : Int32) : wpX_torn (fun u' => wpY_torn (fun v' => i_Rel (k + 4) u' v') v (lw_bz v1) v2) u (lw_bz v1) v2 := by
  obtain ⟨tr, vf, op, S, L, B⟩ := u
  obtain ⟨cd, tr', vf', op', ch, oc, sz, gd, bs, sn, os, og, ob⟩ := v
  obtain ⟨rfl, rfl, rfl, R⟩ := I
  have hB := cf_R_B R
  obtain ⟨bx, rfl, _⟩ := cf_R_S R
  obtain ⟨rfl, r2, r3, r4, r5, r6, r7, r8, r9, r10⟩ := R
  by_cases m : lw_bz v1 = 0
  · refine br_t m (cf_c_bl hB cf_im_z ?_)
    refine cf_xtorn15 cf_im_z hB hB ?_
    by_cases c : ch = 0
    · obtain rfl := r4 c
      exact br_t c (cf_torn83 ⟨rfl, rfl, rfl, cf_R_pow r6 r7 r8 r9 r10⟩)
    · obtain ⟨rfl, k5⟩ := r5 c
      exact br_f c (br_t m (cf_torn13 k5 r6.2.2.2.1 r6.2.2.2.2.1 r6.2.2.2.2.2 ⟨rfl, rfl, rfl, cf_R_pow k5 r7 r8 r9 r10⟩))
  · refine br_f m (cf_xtorn15 cf_im_z cf_im_z hB ?_)
    by_cases c : ch = 0
    · exact br_t c (cf_torn83 ⟨rfl, rfl, rfl, cf_R_pow r6 r7 r8 r9 r10⟩)
    · exact br_f c (br_f m (cf_torn83 ⟨rfl, rfl, rfl, cf_R_pow r6 r7 r8 r9 r10⟩))
theorem i_vc_state {k : Nat} {u : SX} {v : SY} (I : i_Rel k u v) (hk : k + 4 ≤ 2048) : wpX_state (fun r => wpY_state (fun r' => r' = r ∧ i_Rel (k + 4) u v) v) u := by
  obtain ⟨tr, vf, op, S, L, B⟩ := u
  obtain ⟨cd, tr', vf', op', ch, oc, sz, gd, bs, sn, os, og, ob⟩ := v
  obtain ⟨rfl, rfl, rfl, R⟩ := I
  by_cases h : vf' = 0
  · exact br_t h (br_t h ⟨Int32.add_zero _, rfl, rfl, rfl, R⟩)
  · exact br_f h (br_f h ⟨rfl, rfl, rfl, rfl, R⟩)
