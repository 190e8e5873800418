section
variable {l : Launch} {G : q_G} {P : Nat → q_M} {D : va_G} {dA : Nat → ClassId} {az : Nat → Nat} {M : q_M} {p : Program} {e : Env} {R : Room} {s : State} {m : MethodId} {args : Array Value} {below : List Frame} {meth : Method} {c : Code} {A : Nat → Prop} {Q : State → Prop}
theorem q_cat_map (az ad : Nat → Nat) (st : List Value) : ((st.map (q_v az ad)).map fun v => v.category).sum = q_cat st := by
  simp only [q_cat, List.map_map]
  congr 1
  apply List.map_congr_left
  intro v _
  exact q_v_cat az ad v
theorem q_s2_ok (hG : q_okG G) (hM : q_okM G P M) (hf : q_fr G D dA az M p R s m args meth c A) {n0 s0 : Int} {pc : Nat} {ins : Instr} {len : Nat} {ks : List Nat} (ht : q_tb M pc = some (ins, len, ks)) {ls : List (Option Value)} {st : List Value} {H : q_H} {ad : Nat → Nat} {Hp : Heap} {locs : List Loc} {lsA : Array Slot} {z : q_R4} (h : q_s2 G M ins pc ls st H = some z) (wf : q_ok4 ls st H)
    (hw : q_wd G D dA s A ad H Hp locs) (hl : q_L az ad lsA (q_nL M) ls) (hn : n0 ≤ H.1.length) (hs : s0 ≤ q_sl G H.1) (hc1 : (((z.2.2.2.1.length : Nat) : Int) - n0).toNat ≤ R.cells) (hc2 : (((q_sl G z.2.2.2.1 : Nat) : Int) - s0).toNat ≤ R.slots)
    (kk : q_K l G D dA az M p e R s m args below meth c A Q n0 s0 ad H z) :
    W p l e R s m args below meth c Hp locs ((((H.1.length : Nat) : Int) - n0).toNat) ((((q_sl G H.1 : Nat) : Int) - s0).toNat) Q (F0 m pc lsA (st.map (q_v az ad))) := by
  obtain ⟨hx, hb, hml, hown, hts, hnm, hK, hA, hZ, hN, hR1, hR2⟩ := id hf
  cases ins <;> first | (exfalso; simp only [q_s2, reduceCtorEq] at h; done) | skip
  case iinc i n =>
    simp only [q_s2] at h
    split at h
    · rename_i x hv
      split at h
      · rename_i hi
        cases h
        obtain ⟨k, hk⟩ := List.getElem?_of_mem (q_lv_mem (az := az) (ad := ad) (q := (i, .int x)) |>.mpr ⟨.int x, hv, rfl⟩)
        exact lv_iinc hx hb (q_dec hM ht rfl) (q_L_has hl) hk rfl hi rfl fun ls' h' => kk ad Hp locs ls' (fun _ _ => rfl) hw (q_L_set1 (v := .int (x + Int32.ofInt n)) rfl h')
      · cases h
    · cases h
  case ineg =>
    simp only [q_s2] at h
    split at h
    · cases h
      exact lv_ineg hx hb (q_dec hM ht rfl) (kk ad Hp locs lsA (fun _ _ => rfl) hw hl)
    · cases h
  case i2l =>
    simp only [q_s2] at h
    split at h
    · cases h
      exact lv_i2l hx hb (q_dec hM ht rfl) rfl (kk ad Hp locs lsA (fun _ _ => rfl) hw hl)
    · cases h
  case l2i =>
    simp only [q_s2] at h
    split at h
    · cases h
      exact lv_l2i hx hb (q_dec hM ht rfl) rfl (kk ad Hp locs lsA (fun _ _ => rfl) hw hl)
    · cases h
  case lcmp =>
    simp only [q_s2] at h
    split at h
    · cases h
      exact W.lcmp hx hb (q_dec hM ht rfl) (kk ad Hp locs lsA (fun _ _ => rfl) hw hl)
    · cases h
  case dup =>
    simp only [q_s2] at h
    split at h
    · split at h
      · rename_i hcat
        cases h
        exact lv_dup hx hb (q_dec hM ht rfl) (by rw [q_v_cat]; exact hcat) (kk ad Hp locs lsA (fun _ _ => rfl) hw hl)
      · cases h
    · cases h
  case pop =>
    simp only [q_s2] at h
    split at h
    · split at h
      · rename_i hcat
        cases h
        exact lv_pop hx hb (q_dec hM ht rfl) (by rw [q_v_cat]; exact hcat) (kk ad Hp locs lsA (fun _ _ => rfl) hw hl)
      · cases h
    · cases h
  case dup_x1 =>
    simp only [q_s2] at h
    split at h
    · split at h
      · rename_i hcat
        cases h
        exact lv_dup_x1 hx hb (q_dec hM ht rfl) (by rw [q_v_cat]; exact hcat.1) (by rw [q_v_cat]; exact hcat.2) (kk ad Hp locs lsA (fun _ _ => rfl) hw hl)
      · cases h
    · cases h
  case dup2 =>
    simp only [q_s2] at h
    split at h
    · split at h
      · rename_i hcat
        cases h
        exact lv_dup2_11 hx hb (q_dec hM ht rfl) (by rw [q_v_cat]; exact hcat.1) (by rw [q_v_cat]; exact hcat.2) (kk ad Hp locs lsA (fun _ _ => rfl) hw hl)
      · cases h
    · cases h
  case goto off =>
    simp only [q_s2, Option.map_eq_some_iff] at h
    obtain ⟨t, ht', rfl⟩ := h
    exact lv_goto hx hb (q_dec hM ht rfl) (q_tg_eq ht') (kk ad Hp locs lsA (fun _ _ => rfl) hw hl)
  case ifCond cd off =>
    simp only [q_s2] at h
    split at h
    · rename_i x r
      rw [Option.map_eq_some_iff] at h
      obtain ⟨t, ht', rfl⟩ := h
      have k := kk ad Hp locs lsA (fun _ _ => rfl) hw hl
      have k1 : q_cc cd x 0 = true → W p l e R s m args below meth c Hp locs ((((H.1.length : Nat) : Int) - n0).toNat) ((((q_sl G H.1 : Nat) : Int) - s0).toNat) Q (F0 m t lsA (r.map (q_v az ad))) := fun hq => by
        simp only [hq, if_true] at k
        exact k
      have k2 : q_cc cd x 0 = false → W p l e R s m args below meth c Hp locs ((((H.1.length : Nat) : Int) - n0).toNat) ((((q_sl G H.1 : Nat) : Int) - s0).toNat) Q (F0 m (pc + 3) lsA (r.map (q_v az ad))) := fun hq => by
        simp only [hq] at k
        exact k
      cases cd
      · exact lv_if_eq hx hb (q_dec hM ht rfl) (q_tg_eq ht') (fun hq => k1 (by simp [q_cc, hq])) (fun hq => k2 (by simp [q_cc, hq]))
      · exact lv_if_ne hx hb (q_dec hM ht rfl) (q_tg_eq ht') (fun hq => k1 (by simp [q_cc, hq])) (fun hq => k2 (by simp [q_cc, hq]))
      · exact lv_if_lt hx hb (q_dec hM ht rfl) (q_tg_eq ht') (fun hq => k1 (by simpa [q_cc] using hq)) (fun hq => k2 (by simpa [q_cc] using hq))
      · exact lv_if_ge hx hb (q_dec hM ht rfl) (q_tg_eq ht') (fun hq => k1 (by simpa [q_cc] using hq)) (fun hq => k2 (by simpa [q_cc] using hq))
      · exact lv_if_gt hx hb (q_dec hM ht rfl) (q_tg_eq ht') (fun hq => k1 (by simpa [q_cc] using hq)) (fun hq => k2 (by simpa [q_cc] using hq))
      · exact lv_if_le hx hb (q_dec hM ht rfl) (q_tg_eq ht') (fun hq => k1 (by simpa [q_cc] using hq)) (fun hq => k2 (by simpa [q_cc] using hq))
    · cases h
  case if_icmp cd off =>
    simp only [q_s2] at h
    split at h
    · rename_i y x r
      rw [Option.map_eq_some_iff] at h
      obtain ⟨t, ht', rfl⟩ := h
      have k := kk ad Hp locs lsA (fun _ _ => rfl) hw hl
      have k1 : q_cc cd x y = true → W p l e R s m args below meth c Hp locs ((((H.1.length : Nat) : Int) - n0).toNat) ((((q_sl G H.1 : Nat) : Int) - s0).toNat) Q (F0 m t lsA (r.map (q_v az ad))) := fun hq => by
        simp only [hq, if_true] at k
        exact k
      have k2 : q_cc cd x y = false → W p l e R s m args below meth c Hp locs ((((H.1.length : Nat) : Int) - n0).toNat) ((((q_sl G H.1 : Nat) : Int) - s0).toNat) Q (F0 m (pc + 3) lsA (r.map (q_v az ad))) := fun hq => by
        simp only [hq] at k
        exact k
      cases cd
      · exact lv_icmp_eq hx hb (q_dec hM ht rfl) (q_tg_eq ht') (fun hq => k1 (by simp [q_cc, hq])) (fun hq => k2 (by simp [q_cc, hq]))
      · exact lv_icmp_ne hx hb (q_dec hM ht rfl) (q_tg_eq ht') (fun hq => k1 (by simp [q_cc, hq])) (fun hq => k2 (by simp [q_cc, hq]))
      · exact lv_icmp_lt hx hb (q_dec hM ht rfl) (q_tg_eq ht') (fun hq => k1 (by simpa [q_cc] using hq)) (fun hq => k2 (by simpa [q_cc] using hq))
      · exact lv_icmp_ge hx hb (q_dec hM ht rfl) (q_tg_eq ht') (fun hq => k1 (by simpa [q_cc] using hq)) (fun hq => k2 (by simpa [q_cc] using hq))
      · exact lv_icmp_gt hx hb (q_dec hM ht rfl) (q_tg_eq ht') (fun hq => k1 (by simpa [q_cc] using hq)) (fun hq => k2 (by simpa [q_cc] using hq))
      · exact lv_icmp_le hx hb (q_dec hM ht rfl) (q_tg_eq ht') (fun hq => k1 (by simpa [q_cc] using hq)) (fun hq => k2 (by simpa [q_cc] using hq))
    · cases h
  case tableswitch dflt lo hi offs =>
    simp only [q_s2] at h
    split at h
    · rename_i x r
      rw [Option.map_eq_some_iff] at h
      obtain ⟨t, ht', rfl⟩ := h
      have k := kk ad Hp locs lsA (fun _ _ => rfl) hw hl
      have hd := (hM.2.1 pc _ len ks ht).1 (fun q => by cases q)
      split at ht'
      · rename_i hq
        exact lv_tableOut hx hb hd hq (q_tg_eq ht') k
      · rename_i hq
        split at ht'
        · rename_i off ho
          exact lv_tableIn hx hb hd (fun q => hq (Or.inl q)) (fun q => hq (Or.inr q)) ho (q_tg_eq ht') k
        · cases ht'
    · cases h
  case getfield i =>
    simp only [q_s2] at h
    split at h
    · split at h
      · rename_i hr
        split at h
        · rename_i hq
          cases h
          exact q_get_ok hM hf ht hr hq.1 hq.2 hw (kk ad Hp locs lsA (fun _ _ => rfl) hw hl)
        · cases h
      · cases h
    · cases h
  case putfield i =>
    simp only [q_s2] at h
    split at h
    · split at h
      · rename_i hr
        split at h
        · rename_i hq
          rw [Option.map_eq_some_iff] at h
          obtain ⟨H', e', rfl⟩ := h
          have hs1 : H'.1 = H.1 := by
            rename_i v _ _ _ _ _ _
            cases v <;> simp only [q_pf, reduceCtorEq] at e' <;> (split at e' <;> cases e') <;> rfl
          have k := fun Hp' locs' hw' => kk ad Hp' locs' lsA (fun _ _ => rfl) hw' hl
          simp only [hs1] at k
          exact q_put_ok hM hf ht hr hq.1 hq.2 e' hw k
        · cases h
      · cases h
    · cases h
  case getstatic i =>
    simp only [q_s2] at h
    split at h
    · rename_i hr
      cases h
      exact q_stat_ok hM hf hw ht hr (kk ad Hp locs lsA (fun _ _ => rfl) hw hl)
    · cases h
  case iaload =>
    simp only [q_s2] at h
    split at h
    · split at h
      · rename_i ha
        rw [Option.map_eq_some_iff] at h
        obtain ⟨j, hj, rfl⟩ := h
        exact (q_ald_ok hG hM hf hj hw).1 ht ha (kk ad Hp locs lsA (fun _ _ => rfl) hw hl)
      · cases h
    · split at h
      · rename_i hq
        rw [Option.map_eq_some_iff] at h
        obtain ⟨j, hj, rfl⟩ := h
        exact q_sld_ok hM hf hw ht hq hj (kk ad Hp locs lsA (fun _ _ => rfl) hw hl)
      · cases h
    · cases h
  case laload =>
    simp only [q_s2] at h
    split at h
    · split at h
      · rename_i ha
        rw [Option.map_eq_some_iff] at h
        obtain ⟨j, hj, rfl⟩ := h
        exact (q_ald_ok hG hM hf hj hw).2.1 ht ha (kk ad Hp locs lsA (fun _ _ => rfl) hw hl)
      · cases h
    · cases h
  case baload =>
    simp only [q_s2] at h
    split at h
    · split at h
      · rename_i ha
        rw [Option.map_eq_some_iff] at h
        obtain ⟨j, hj, rfl⟩ := h
        exact (q_ald_ok hG hM hf hj hw).2.2 ht ha (kk ad Hp locs lsA (fun _ _ => rfl) hw hl)
      · cases h
    · cases h
  case aaload =>
    simp only [q_s2] at h
    split at h
    · split at h
      · rename_i ha
        split at h
        · rename_i hq
          rw [Option.map_eq_some_iff] at h
          obtain ⟨j, hj, rfl⟩ := h
          exact q_aald_ok hM hf hj hw ht ha hq.1 hq.2 (kk ad Hp locs lsA (fun _ _ => rfl) hw hl)
        · cases h
      · cases h
    · cases h
  case iastore =>
    simp only [q_s2] at h
    split at h
    · split at h
      · rename_i ha
        rw [Option.map_eq_some_iff] at h
        obtain ⟨j, hj, rfl⟩ := h
        exact (q_ast_ok hG hM hf hj hw).1 _ ht ha (fun Hp' locs' hw' => kk ad Hp' locs' lsA (fun _ _ => rfl) hw' hl)
      · cases h
    · cases h
  case lastore =>
    simp only [q_s2] at h
    split at h
    · split at h
      · rename_i ha
        rw [Option.map_eq_some_iff] at h
        obtain ⟨j, hj, rfl⟩ := h
        exact (q_ast_ok hG hM hf hj hw).2.1 _ ht ha (fun Hp' locs' hw' => kk ad Hp' locs' lsA (fun _ _ => rfl) hw' hl)
      · cases h
    · cases h
  case bastore =>
    simp only [q_s2] at h
    split at h
    · split at h
      · rename_i ha
        rw [Option.map_eq_some_iff] at h
        obtain ⟨j, hj, rfl⟩ := h
        exact (q_ast_ok hG hM hf hj hw).2.2 _ ht ha (fun Hp' locs' hw' => kk ad Hp' locs' lsA (fun _ _ => rfl) hw' hl)
      · cases h
    · cases h
  case aastore =>
    simp only [q_s2] at h
    split at h
    · split at h
      · rename_i ha hbb
        split at h
        · rename_i hc
          split at h
          · rename_i hq
            rw [Option.map_eq_some_iff] at h
            obtain ⟨j, hj, rfl⟩ := h
            exact q_aast_ok hM hf hj hw ht ha hbb hc hq.1 hq.2 (fun Hp' locs' hw' => kk ad Hp' locs' lsA (fun _ _ => rfl) hw' hl)
          · cases h
        · cases h
      · cases h
    · cases h
  case arraylength =>
    simp only [q_s2] at h
    split at h
    · split at h
      · rename_i ha
        split at h
        · rename_i hq
          cases h
          exact q_alen_ok hM hf hw ht ha hq (kk ad Hp locs lsA (fun _ _ => rfl) hw hl)
        · cases h
      · cases h
    · split at h
      · rename_i hq
        cases h
        exact q_slen_ok hM hf hw ht hq (kk ad Hp locs lsA (fun _ _ => rfl) hw hl)
      · cases h
    · cases h
  case new i =>
    simp only [q_s2] at h
    split at h
    · rename_i hr
      cases h
      exact q_new_ok hM hf wf hw hl ht hr hn hs hc1 hc2 kk
    · cases h
  case newarray at_ =>
    simp only [q_s2] at h
    split at h
    · split at h
      · rename_i ha
        split at h
        · cases h
        · rename_i hq
          cases h
          exact q_newa_ok hG hM hf wf hw hl ht ha (fun q => hq (Or.inl q)) (Nat.not_lt.mp fun q => hq (Or.inr q)) hn hs hc1 hc2 kk
      · cases h
    · cases h
  case anewarray i =>
    simp only [q_s2] at h
    split at h
    · split at h
      · rename_i hr
        split at h
        · cases h
        · rename_i hq
          cases h
          exact q_anew_ok hG hM hf wf hw hl ht hr (fun q => hq (Or.inl q)) (Nat.not_lt.mp fun q => hq (Or.inr q)) hn hs hc1 hc2 kk
      · cases h
    · cases h
  case invokespecial i =>
    simp only [q_s2] at h
    split at h
    · split at h
      · rename_i hr
        split at h
        · rename_i hq
          cases h
          obtain ⟨⟨r1, r2⟩, w1, w2, w3⟩ := (hM.2.2.1 i _ hr).2.2.2.2.2.2.2.1 rfl
          exact W.objInit hx hb hown (hts _ w1) (hts _ w2) (hts _ w3) rfl (hl.1.trans hml.symm) rfl (q_dec hM ht rfl) (by omega) (by
            show 2 * 0 + _ + 12 ≤ _
            rw [q_cat_map]
            omega) (kk ad Hp locs lsA (fun _ _ => rfl) hw hl)
        · cases h
      · cases h
    · cases h
  case invokestatic i =>
    simp only [q_s2] at h
    split at h
    · rename_i hr
      split at h
      · split at h
        · rename_i hq
          cases h
          obtain ⟨⟨r1, r2⟩, w1, w2, w3, w4⟩ := (hM.2.2.1 i _ hr).2.2.2.2.2.2.2.2.1 rfl
          exact va_mmin hx hb (hml.trans hl.1.symm) hown (hts _ w1) (hts _ w2) (hts _ w3) (hts _ w4) (by omega) (by rw [q_cat_map]; omega) (by simpa using hc1) (by simpa using hc2) (q_dec hM ht rfl) (kk ad Hp locs lsA (fun _ _ => rfl) hw hl)
        · cases h
      · cases h
    · rename_i hr
      split at h
      · split at h
        · rename_i hq
          cases h
          obtain ⟨⟨r1, r2⟩, w1, w2, w3, w4⟩ := (hM.2.2.1 i _ hr).2.2.2.2.2.2.2.2.2.1 rfl
          exact va_mmax hx hb (hml.trans hl.1.symm) hown (hts _ w1) (hts _ w2) (hts _ w3) (hts _ w4) (by omega) (by rw [q_cat_map]; omega) (by simpa using hc1) (by simpa using hc2) (q_dec hM ht rfl) (kk ad Hp locs lsA (fun _ _ => rfl) hw hl)
        · cases h
      · cases h
    · rename_i hr
      split at h
      · split at h
        · rename_i hq
          cases h
          obtain ⟨⟨r1, r2⟩, w1, w2, w3, w4⟩ := (hM.2.2.1 i _ hr).2.2.2.2.2.2.2.2.2.2.1 rfl
          exact va_mabs hx hb (hml.trans hl.1.symm) hown (hts _ w1) (hts _ w2) (hts _ w3) (hts _ w4) (by omega) (by rw [q_cat_map]; omega) (by simpa using hc1) (by simpa using hc2) (q_dec hM ht rfl) (kk ad Hp locs lsA (fun _ _ => rfl) hw hl)
        · cases h
      · cases h
    · rename_i hr
      split at h
      · split at h
        · rename_i ha hbb
          split at h
          · rename_i hq
            cases h
            exact q_copy_ok hG hM hf hw ht hr ha hbb hq.1 hq.2.1 hq.2.2.1 hq.2.2.2.1 hq.2.2.2.2.1 hq.2.2.2.2.2 (fun Hp' locs' hw' => kk ad Hp' locs' lsA (fun _ _ => rfl) hw' hl) hl.1
          · cases h
        · cases h
      · cases h
    · cases h
theorem q_s1_ok (hG : q_okG G) (hM : q_okM G P M) (hf : q_fr G D dA az M p R s m args meth c A) {n0 s0 : Int} {pc : Nat} {ins : Instr} {len : Nat} {ks : List Nat} (ht : q_tb M pc = some (ins, len, ks)) {ls : List (Option Value)} {st : List Value} {H : q_H} {ad : Nat → Nat} {Hp : Heap} {locs : List Loc} {lsA : Array Slot} {z : q_R4} (h : q_s1 G M ins pc ls st H = some z) (wf : q_ok4 ls st H)
    (hw : q_wd G D dA s A ad H Hp locs) (hl : q_L az ad lsA (q_nL M) ls) (hn : n0 ≤ H.1.length) (hs : s0 ≤ q_sl G H.1) (hc1 : (((z.2.2.2.1.length : Nat) : Int) - n0).toNat ≤ R.cells) (hc2 : (((q_sl G z.2.2.2.1 : Nat) : Int) - s0).toNat ≤ R.slots)
    (kk : q_K l G D dA az M p e R s m args below meth c A Q n0 s0 ad H z) :
    W p l e R s m args below meth c Hp locs ((((H.1.length : Nat) : Int) - n0).toNat) ((((q_sl G H.1 : Nat) : Int) - s0).toNat) Q (F0 m pc lsA (st.map (q_v az ad))) := by
  unfold q_s1 at h
  split at h
  · rename_i q hq
    cases h
    exact q_pu_ok hM hf ht hq hw hl kk
  · split at h
    · rename_i q hq
      split at h
      · rename_i v hv
        split at h
        · rename_i hk
          cases h
          exact q_lo_ok hM hf ht hq hv hk.1 hk.2 hw hl kk
        · cases h
      · cases h
    · split at h
      · rename_i q hq
        split at h
        · split at h
          · rename_i hk
            cases h
            exact q_so_ok hM hf ht hq hk.1 hk.2.1 hk.2.2 hw hl kk
          · cases h
        · cases h
      · split at h
        · rename_i f hq
          split at h
          · rw [Option.map_eq_some_iff] at h
            obtain ⟨j, hj, rfl⟩ := h
            exact q_b2_ok hM hf ht hq hj hw hl kk
          · cases h
        · split at h
          · rename_i f hq
            split at h
            · rw [Option.map_eq_some_iff] at h
              obtain ⟨j, hj, rfl⟩ := h
              exact q_l2_ok hM hf ht hq hj hw hl kk
            · cases h
          · exact q_s2_ok hG hM hf ht h wf hw hl hn hs hc1 hc2 kk
end
