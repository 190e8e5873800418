section
variable {l : Launch} {G : q_G} {P : Nat → q_M} {D : va_G} {dA : Nat → ClassId} {az : Nat → Nat} {M : q_M} {p : Program} {e : Env} {R : Room} {s : State} {m : MethodId} {args : Array Value} {below : List Frame} {meth : Method} {c : Code} {A : Nat → Prop} {Q : State → Prop}
theorem q_av0 {G : q_G} {t : Nat} (h : q_kd (g_at G t) = 0) (ad : Nat → Nat) (H : q_H) (i : Nat) : q_av G ad H i t = .inl (H.2.1 i) := by
  simp [q_av, h]
theorem q_av1 {G : q_G} {t : Nat} (h : q_kd (g_at G t) = 1) (ad : Nat → Nat) (H : q_H) (i : Nat) : q_av G ad H i t = .inr (.inl (H.2.2.1 i)) := by
  simp [q_av, h]
theorem q_av2 {G : q_G} {t : Nat} (h : q_kd (g_at G t) = 2) (ad : Nat → Nat) (H : q_H) (i : Nat) : q_av G ad H i t = .inr (.inr (.inr (.inr fun j => (H.2.2.2 i j).map ad))) := by
  simp [q_av, h]
theorem q_arr_at {dA : Nat → ClassId} {ad : Nat → Nat} {H : q_H} {a t n : Nat} (ha : H.1[a]? = some (.inr (t, n))) : (q_w G dA ad H)[a]? = some (ad a, .inl (dA t, n, q_av G ad H a t)) := q_w_at ha
/-- the world behind a write of an array's element -/
theorem q_w_arr {dA : Nat → ClassId} {ad : Nat → Nat} {H H' : q_H} {a t n : Nat} (ha : H.1[a]? = some (.inr (t, n))) (hs : H'.1 = H.1) (h1 : ∀ i, i ≠ a → H'.2.1 i = H.2.1 i) (h2 : ∀ i, i ≠ a → H'.2.2.1 i = H.2.2.1 i) (h3 : ∀ i, i ≠ a → H'.2.2.2 i = H.2.2.2 i) : (q_w G dA ad H).set a (ad a, .inl (dA t, n, q_av G ad H' a t)) = q_w G dA ad H' := q_w_set hs ha rfl h1 h2 h3
theorem q_ald_ok (hG : q_okG G) (hM : q_okM G P M) (hf : q_fr G D dA az M p R s m args meth c A) {cells slots pc a n : Nat} {len : Nat} {ks : List Nat} {i : Int32} {j : Nat} {st : List Value} {H : q_H} {ad : Nat → Nat} {Hp : Heap} {locs : List Loc} {lsA : Array Slot} (hj : q_ix i n = some j) (hw : q_wd G D dA s A ad H Hp locs) :
    (q_tb M pc = some (.iaload, len, ks) → H.1[a]? = some (.inr (0, n)) → W p l e R s m args below meth c Hp locs cells slots Q (F0 m (pc + 1) lsA ((.int (H.2.1 a j) :: st).map (q_v az ad))) → W p l e R s m args below meth c Hp locs cells slots Q (F0 m pc lsA ((.int i :: .ref a :: st).map (q_v az ad)))) ∧
    (q_tb M pc = some (.laload, len, ks) → H.1[a]? = some (.inr (1, n)) → W p l e R s m args below meth c Hp locs cells slots Q (F0 m (pc + 1) lsA ((.long (H.2.2.1 a j) :: st).map (q_v az ad))) → W p l e R s m args below meth c Hp locs cells slots Q (F0 m pc lsA ((.int i :: .ref a :: st).map (q_v az ad)))) ∧
    (q_tb M pc = some (.baload, len, ks) → H.1[a]? = some (.inr (2, n)) → W p l e R s m args below meth c Hp locs cells slots Q (F0 m (pc + 1) lsA ((.int (H.2.1 a j) :: st).map (q_v az ad))) → W p l e R s m args below meth c Hp locs cells slots Q (F0 m pc lsA ((.int i :: .ref a :: st).map (q_v az ad)))) := by
  obtain ⟨hx, hb, hml, hown, hts, hnm, hK, hA, hZ, hN, hR1, hR2⟩ := hf
  obtain ⟨g0, g1, g2, g3, -⟩ := hG
  obtain ⟨hin, rfl⟩ := q_ix_in hj
  refine ⟨fun ht ha k => ?_, fun ht ha k => ?_, fun ht ha k => ?_⟩
  · have he := q_arr_at (G := G) (dA := dA) (ad := ad) ha
    rw [q_av0 (by rw [g0]; rfl)] at he
    exact va_iald hx hb hK hw.1 a 0 he (by rw [q_tys_at (by omega), g0]) hin (q_dec hM ht rfl) k
  · have he := q_arr_at (G := G) (dA := dA) (ad := ad) ha
    rw [q_av1 (by rw [g1]; rfl)] at he
    exact va_lald hx hb hK hw.1 a 1 he (by rw [q_tys_at (by omega), g1]) hin (q_dec hM ht rfl) k
  · have he := q_arr_at (G := G) (dA := dA) (ad := ad) ha
    rw [q_av0 (by rw [g2]; rfl)] at he
    exact va_zald hx hb hK hw.1 a 2 he (by rw [q_tys_at (by omega), g2]) hin (q_dec hM ht rfl) k
theorem q_aald_ok (hM : q_okM G P M) (hf : q_fr G D dA az M p R s m args meth c A) {cells slots pc a n t : Nat} {len : Nat} {ks : List Nat} {i : Int32} {j : Nat} {st : List Value} {H : q_H} {ad : Nat → Nat} {Hp : Heap} {locs : List Loc} {lsA : Array Slot} (hj : q_ix i n = some j) (hw : q_wd G D dA s A ad H Hp locs)
    (ht : q_tb M pc = some (.aaload, len, ks)) (ha : H.1[a]? = some (.inr (t, n))) (hk : q_kd (g_at G t) = 2) (htn : t < g_na G) (k : W p l e R s m args below meth c Hp locs cells slots Q (F0 m (pc + 1) lsA ((va_rf (H.2.2.2 a j) :: st).map (q_v az ad)))) : W p l e R s m args below meth c Hp locs cells slots Q (F0 m pc lsA ((.int i :: .ref a :: st).map (q_v az ad))) := by
  obtain ⟨hx, hb, hml, hown, hts, hnm, hK, hA, hZ, hN, hR1, hR2⟩ := hf
  obtain ⟨hin, rfl⟩ := q_ix_in hj
  have he := q_arr_at (G := G) (dA := dA) (ad := ad) ha
  rw [q_av2 hk] at he
  have hlt : i.toNatClampNeg < n := Nat.not_le.mp fun q => hin (Or.inr q)
  have hty : (g_at G t).isReference = true := by
    cases hg : g_at G t with
    | object n => rfl
    | array n => rfl
    | _ => rw [hg] at hk; cases hk
  simp only [List.map_cons, q_v_rf] at k ⊢
  exact W.aald (v := va_rf ((H.2.2.2 a i.toNatClampNeg).map ad)) (ty := g_at G t) hx hb (hw.1 a _ he) ((hK.2 t _ (q_tys_at htn)).1 n (fun j => va_rf ((H.2.2.2 a j).map ad))) hty (fun q => by cases q) (by show ¬ (i < 0 ∨ (arrV _ _ _).slots.size ≤ _); rw [arrV_size]; exact hin) (by show (arrV _ _ _).slots[_]? = _; rw [arrV_read _ _ hlt]) rfl rfl (q_dec hM ht rfl) k
theorem q_ast_ok (hG : q_okG G) (hM : q_okM G P M) (hf : q_fr G D dA az M p R s m args meth c A) {cells slots pc a n : Nat} {len : Nat} {ks : List Nat} {i : Int32} {j : Nat} {st : List Value} {H : q_H} {ad : Nat → Nat} {Hp : Heap} {locs : List Loc} {lsA : Array Slot} (hj : q_ix i n = some j) (hw : q_wd G D dA s A ad H Hp locs) :
    (∀ x : Int32, q_tb M pc = some (.iastore, len, ks) → H.1[a]? = some (.inr (0, n)) → (∀ Hp' locs', q_wd G D dA s A ad (H.1, q_up H.2.1 a j x, H.2.2) Hp' locs' → W p l e R s m args below meth c Hp' locs' cells slots Q (F0 m (pc + 1) lsA (st.map (q_v az ad)))) → W p l e R s m args below meth c Hp locs cells slots Q (F0 m pc lsA ((.int x :: .int i :: .ref a :: st).map (q_v az ad)))) ∧
    (∀ x : Int64, q_tb M pc = some (.lastore, len, ks) → H.1[a]? = some (.inr (1, n)) → (∀ Hp' locs', q_wd G D dA s A ad (H.1, H.2.1, q_up H.2.2.1 a j x, H.2.2.2) Hp' locs' → W p l e R s m args below meth c Hp' locs' cells slots Q (F0 m (pc + 1) lsA (st.map (q_v az ad)))) → W p l e R s m args below meth c Hp locs cells slots Q (F0 m pc lsA ((.long x :: .int i :: .ref a :: st).map (q_v az ad)))) ∧
    (∀ x : Int32, q_tb M pc = some (.bastore, len, ks) → H.1[a]? = some (.inr (2, n)) → (∀ Hp' locs', q_wd G D dA s A ad (H.1, q_up H.2.1 a j (x &&& 1), H.2.2) Hp' locs' → W p l e R s m args below meth c Hp' locs' cells slots Q (F0 m (pc + 1) lsA (st.map (q_v az ad)))) → W p l e R s m args below meth c Hp locs cells slots Q (F0 m pc lsA ((.int x :: .int i :: .ref a :: st).map (q_v az ad)))) := by
  obtain ⟨hx, hb, hml, hown, hts, hnm, hK, hA, hZ, hN, hR1, hR2⟩ := hf
  obtain ⟨g0, g1, g2, g3, -⟩ := hG
  obtain ⟨hin, rfl⟩ := q_ix_in hj
  refine ⟨fun x ht ha k => ?_, fun x ht ha k => ?_, fun x ht ha k => ?_⟩
  · have he := q_arr_at (G := G) (dA := dA) (ad := ad) ha
    rw [q_av0 (by rw [g0]; rfl)] at he
    have hq := q_w_arr (G := G) (dA := dA) (ad := ad) (H' := (H.1, q_up H.2.1 a i.toNatClampNeg x, H.2.2)) ha rfl (fun i hi => q_up_row _ _ hi) (fun _ _ => rfl) (fun _ _ => rfl)
    rw [q_av0 (by rw [g0]; rfl)] at hq
    simp only [q_up_self] at hq
    exact va_iast hx hb hK hw.1 hw.2.1 hw.2.2 a 0 he (by rw [q_tys_at (by omega), g0]) hin (q_dec hM ht rfl) fun H1 locs1 h1 h2 h3 => k H1 locs1 ⟨hq ▸ h1, hq ▸ h2, h3⟩
  · have he := q_arr_at (G := G) (dA := dA) (ad := ad) ha
    rw [q_av1 (by rw [g1]; rfl)] at he
    have hq := q_w_arr (G := G) (dA := dA) (ad := ad) (H' := (H.1, H.2.1, q_up H.2.2.1 a i.toNatClampNeg x, H.2.2.2)) ha rfl (fun _ _ => rfl) (fun i hi => q_up_row _ _ hi) (fun _ _ => rfl)
    rw [q_av1 (by rw [g1]; rfl)] at hq
    simp only [q_up_self] at hq
    exact va_last hx hb hK hw.1 hw.2.1 hw.2.2 a 1 he (by rw [q_tys_at (by omega), g1]) hin (q_dec hM ht rfl) fun H1 locs1 h1 h2 h3 => k H1 locs1 ⟨hq ▸ h1, hq ▸ h2, h3⟩
  · have he := q_arr_at (G := G) (dA := dA) (ad := ad) ha
    rw [q_av0 (by rw [g2]; rfl)] at he
    have hq := q_w_arr (G := G) (dA := dA) (ad := ad) (H' := (H.1, q_up H.2.1 a i.toNatClampNeg (x &&& 1), H.2.2)) ha rfl (fun i hi => q_up_row _ _ hi) (fun _ _ => rfl) (fun _ _ => rfl)
    rw [q_av0 (by rw [g2]; rfl)] at hq
    simp only [q_up_self] at hq
    exact va_zast hx hb hK hw.1 hw.2.1 hw.2.2 a 2 he (by rw [q_tys_at (by omega), g2]) hin (q_dec hM ht rfl) fun H1 locs1 h1 h2 h3 => k H1 locs1 ⟨hq ▸ h1, hq ▸ h2, h3⟩
theorem q_aast_ok (hM : q_okM G P M) (hf : q_fr G D dA az M p R s m args meth c A) {cells slots pc a b n t ci : Nat} {len : Nat} {ks : List Nat} {i : Int32} {j : Nat} {st : List Value} {H : q_H} {ad : Nat → Nat} {Hp : Heap} {locs : List Loc} {lsA : Array Slot} {r : vw_C} (hj : q_ix i n = some j) (hw : q_wd G D dA s A ad H Hp locs)
    (ht : q_tb M pc = some (.aastore, len, ks)) (ha : H.1[a]? = some (.inr (t, n))) (hbb : H.1[b]? = some (.inl ci)) (hc : (g_cl G)[ci]? = some r) (hg : g_at G t = .object r.1) (htn : t < g_na G) (k : ∀ Hp' locs', q_wd G D dA s A ad (H.1, H.2.1, H.2.2.1, q_up H.2.2.2 a j (some b)) Hp' locs' → W p l e R s m args below meth c Hp' locs' cells slots Q (F0 m (pc + 1) lsA (st.map (q_v az ad)))) :
    W p l e R s m args below meth c Hp locs cells slots Q (F0 m pc lsA ((.ref b :: .int i :: .ref a :: st).map (q_v az ad))) := by
  obtain ⟨hx, hb, hml, hown, hts, hnm, hK, hA, hZ, hN, hR1, hR2⟩ := hf
  obtain ⟨hin, rfl⟩ := q_ix_in hj
  have hk : q_kd (g_at G t) = 2 := by rw [hg]; rfl
  have he := q_arr_at (G := G) (dA := dA) (ad := ad) ha
  rw [q_av2 hk] at he
  have hv := q_w_at (G := G) (dA := dA) (ad := ad) hbb
  have hq := q_w_arr (G := G) (dA := dA) (ad := ad) (H' := (H.1, H.2.1, H.2.2.1, q_up H.2.2.2 a i.toNatClampNeg (some b))) ha rfl (fun _ _ => rfl) (fun _ _ => rfl) (fun i hi => q_up_row _ _ hi)
  rw [q_av2 hk] at hq
  have hfun : (fun j => (q_up H.2.2.2 a i.toNatClampNeg (some b) a j).map ad) = va_up (fun j => (H.2.2.2 a j).map ad) i.toNatClampNeg (some (ad b)) := by
    funext j
    simp only [q_up_self, va_up]
    split <;> rfl
  simp only [hfun] at hq
  exact va_astq hx hb hK hw.1 hw.2.1 hw.2.2 a t b ci he (by rw [q_tys_at htn, hg]) hv hc hin (q_dec hM ht rfl) fun H1 locs1 h1 h2 h3 => k H1 locs1 ⟨hq ▸ h1, hq ▸ h2, h3⟩
theorem q_alen_ok (hM : q_okM G P M) (hf : q_fr G D dA az M p R s m args meth c A) {cells slots pc a n t : Nat} {len : Nat} {ks : List Nat} {st : List Value} {H : q_H} {ad : Nat → Nat} {Hp : Heap} {locs : List Loc} {lsA : Array Slot} (hw : q_wd G D dA s A ad H Hp locs)
    (ht : q_tb M pc = some (.arraylength, len, ks)) (ha : H.1[a]? = some (.inr (t, n))) (htn : t < g_na G) (k : W p l e R s m args below meth c Hp locs cells slots Q (F0 m (pc + 1) lsA ((.int (Int32.ofNat n) :: st).map (q_v az ad)))) : W p l e R s m args below meth c Hp locs cells slots Q (F0 m pc lsA ((.ref a :: st).map (q_v az ad))) := by
  obtain ⟨hx, hb, hml, hown, hts, hnm, hK, hA, hZ, hN, hR1, hR2⟩ := hf
  exact va_alen hx hb hK hw.1 a t (q_arr_at (G := G) (dA := dA) (ad := ad) ha) (q_tys_at htn) rfl (q_dec hM ht rfl) k
theorem q_stat_ok (hM : q_okM G P M) (hf : q_fr G D dA az M p R s m args meth c A) {cells slots pc i t b : Nat} {len : Nat} {ks : List Nat} {st : List Value} {H : q_H} {ad : Nat → Nat} {Hp : Heap} {locs : List Loc} {lsA : Array Slot} (hw : q_wd G D dA s A ad H Hp locs)
    (ht : q_tb M pc = some (.getstatic i, len, ks)) (hr : q_rs M i = some (5, t, b)) (k : W p l e R s m args below meth c Hp locs cells slots Q (F0 m (pc + 3) lsA ((.retAddr t :: st).map (q_v az ad)))) : W p l e R s m args below meth c Hp locs cells slots Q (F0 m pc lsA (st.map (q_v az ad))) := by
  obtain ⟨hx, hb, hml, hown, hts, hnm, hK, hA, hZ, hN, hR1, hR2⟩ := hf
  obtain ⟨q, hq, hne, hlk⟩ := (hM.2.2.1 i _ hr).2.2.2.1 rfl
  rcases hlk with hlk | ⟨host, hlk⟩
  · exact va_gets hx hb ((hZ t q hq).1 hne) hw.2.2 hown (hts _ hlk) (fun _ h => h) (q_dec hM ht rfl) k
  · exact va_getsN hx hb ((hZ t q hq).1 hne) hw.2.2 hown (va_Nw.use rfl (hN _ hlk)) (fun _ h => h) (q_dec hM ht rfl) k
theorem q_sld_ok (hM : q_okM G P M) (hf : q_fr G D dA az M p R s m args meth c A) {cells slots pc t j : Nat} {len : Nat} {ks : List Nat} {i : Int32} {q : String × String × String × List Int32} {st : List Value} {H : q_H} {ad : Nat → Nat} {Hp : Heap} {locs : List Loc} {lsA : Array Slot} (hw : q_wd G D dA s A ad H Hp locs)
    (ht : q_tb M pc = some (.iaload, len, ks)) (hq : (g_sz G)[t]? = some q) (hj : q_ix i q.2.2.2.length = some j) (k : W p l e R s m args below meth c Hp locs cells slots Q (F0 m (pc + 1) lsA ((.int (q.2.2.2.getD j 0) :: st).map (q_v az ad)))) : W p l e R s m args below meth c Hp locs cells slots Q (F0 m pc lsA ((.int i :: .retAddr t :: st).map (q_v az ad))) := by
  obtain ⟨hx, hb, hml, hown, hts, hnm, hK, hA, hZ, hN, hR1, hR2⟩ := hf
  obtain ⟨hin, rfl⟩ := q_ix_in hj
  exact va_ti hx hb (hZ t q hq).2 hw.2.2 hin rfl (q_dec hM ht rfl) k
theorem q_slen_ok (hM : q_okM G P M) (hf : q_fr G D dA az M p R s m args meth c A) {cells slots pc t : Nat} {len : Nat} {ks : List Nat} {q : String × String × String × List Int32} {st : List Value} {H : q_H} {ad : Nat → Nat} {Hp : Heap} {locs : List Loc} {lsA : Array Slot} (hw : q_wd G D dA s A ad H Hp locs)
    (ht : q_tb M pc = some (.arraylength, len, ks)) (hq : (g_sz G)[t]? = some q) (k : W p l e R s m args below meth c Hp locs cells slots Q (F0 m (pc + 1) lsA ((.int (Int32.ofNat q.2.2.2.length) :: st).map (q_v az ad)))) : W p l e R s m args below meth c Hp locs cells slots Q (F0 m pc lsA ((.retAddr t :: st).map (q_v az ad))) := by
  obtain ⟨hx, hb, hml, hown, hts, hnm, hK, hA, hZ, hN, hR1, hR2⟩ := hf
  exact va_tlen hx hb (hZ t q hq).2 hw.2.2 rfl (q_dec hM ht rfl) k
/-- a new object -/
theorem q_new_ok (hM : q_okM G P M) (hf : q_fr G D dA az M p R s m args meth c A) {n0 s0 : Int} {pc i ci b : Nat} {len : Nat} {ks : List Nat} {ls : List (Option Value)} {st : List Value} {H : q_H} {ad : Nat → Nat} {Hp : Heap} {locs : List Loc} {lsA : Array Slot} (wf : q_ok4 ls st H) (hw : q_wd G D dA s A ad H Hp locs) (hl : q_L az ad lsA (q_nL M) ls)
    (ht : q_tb M pc = some (.new i, len, ks)) (hr : q_rs M i = some (3, ci, b)) (hn : n0 ≤ H.1.length) (hs : s0 ≤ q_sl G H.1) (hc1 : ((((q_new H (.inl ci)).1.length : Nat) : Int) - n0).toNat ≤ R.cells) (hc2 : (((q_sl G (q_new H (.inl ci)).1 : Nat) : Int) - s0).toNat ≤ R.slots)
    (kk : q_K l G D dA az M p e R s m args below meth c A Q n0 s0 ad H (pc + 3, ls, .ref H.1.length :: st, q_new H (.inl ci))) :
    W p l e R s m args below meth c Hp locs ((((H.1.length : Nat) : Int) - n0).toNat) ((((q_sl G H.1 : Nat) : Int) - s0).toNat) Q (F0 m pc lsA (st.map (q_v az ad))) := by
  obtain ⟨hx, hb, hml, hown, hts, hnm, hK, hA, hZ, hN, hR1, hR2⟩ := hf
  obtain ⟨C, T, N, hc, hin, hty, hkd, hcl, hins, hini⟩ := (hM.2.2.1 i _ hr).2.1 rfl
  have hnf : q_nf G ci = N := by simp only [q_nf]; rw [hc]
  have e1 : ((((q_new H (.inl ci)).1.length : Nat) : Int) - n0).toNat = (((H.1.length : Nat) : Int) - n0).toNat + 1 := by
    simp only [q_new, List.length_append, List.length_cons, List.length_nil]
    omega
  have e2 : (((q_sl G (q_new H (.inl ci)).1 : Nat) : Int) - s0).toNat = (((q_sl G H.1 : Nat) : Int) - s0).toNat + N := by
    simp only [q_new, q_sl_app]
    simp only [q_sl, List.map_cons, List.map_nil, List.sum_cons, List.sum_nil, q_ss, hnf] at hs ⊢
    omega
  refine va_new (ci := ci) hx hb hts hin (g_ft G ci) hty hown (hts _ hcl) (hts _ hins) (hts _ hini) hK hw.1 hw.2.1 hw.2.2 hA hc (fs := (List.range (q_nf G ci)).map (q_fv G ad ([], (fun _ _ => 0), (fun _ _ => 0), fun _ _ => none) 0 ci)) ?_ (by omega) (by omega) (q_dec hM ht rfl) fun q H1 h1 h2 h3 => ?_
  · intro j hj
    have hk := hkd j hj
    have hv : vp_V ((List.range (q_nf G ci)).map (q_fv G ad ([], (fun _ _ => 0), (fun _ _ => 0), fun _ _ => none) 0 ci)) j = q_fv G ad ([], (fun _ _ => 0), (fun _ _ => 0), fun _ _ => none) 0 ci j := by
      simp [vp_V, hnf, hj]
    rw [hv]
    cases hg : g_ft G ci j <;> rw [hg] at hk <;> simp [q_kd] at hk <;> simp [q_fv, hg, q_kd, defaultValue, va_rf]
  · have hq := q_w_new (G := G) (dA := dA) (ad := ad) wf.1 (.inl ci) q
    have k := kk (fun i => if i = H.1.length then q else ad i) H1 locs lsA (fun i hi => if_neg (by omega)) ⟨by rw [hq]; exact h1, by rw [hq]; exact h2, h3⟩ (q_L_ad (fun i hi => if_neg (by omega)) wf.2.2 hl)
    simp only [List.map_cons] at k
    rw [q_map_ad (ad := ad) (fun i hi => if_neg (by omega)) wf.2.1, e1, e2] at k
    simpa only [q_v, if_true] using k
/-- a new array of numbers -/
theorem q_newa_ok (hG : q_okG G) (hM : q_okM G P M) (hf : q_fr G D dA az M p R s m args meth c A) {n0 s0 : Int} {pc t : Nat} {n : Int32} {at_ : ArrayType} {len : Nat} {ks : List Nat} {ls : List (Option Value)} {st : List Value} {H : q_H} {ad : Nat → Nat} {Hp : Heap} {locs : List Loc} {lsA : Array Slot} (wf : q_ok4 ls (.int n :: st) H) (hw : q_wd G D dA s A ad H Hp locs) (hl : q_L az ad lsA (q_nL M) ls)
    (ht : q_tb M pc = some (.newarray at_, len, ks)) (ha : q_at at_ = some t) (hneg : ¬ n < 0) (hbig : n.toNatClampNeg ≤ 1000000) (hn : n0 ≤ H.1.length) (hs : s0 ≤ q_sl G H.1) (hc1 : ((((q_new H (.inr (t, n.toNatClampNeg))).1.length : Nat) : Int) - n0).toNat ≤ R.cells) (hc2 : (((q_sl G (q_new H (.inr (t, n.toNatClampNeg))).1 : Nat) : Int) - s0).toNat ≤ R.slots)
    (kk : q_K l G D dA az M p e R s m args below meth c A Q n0 s0 ad H (pc + 2, ls, .ref H.1.length :: st, q_new H (.inr (t, n.toNatClampNeg)))) :
    W p l e R s m args below meth c Hp locs ((((H.1.length : Nat) : Int) - n0).toNat) ((((q_sl G H.1 : Nat) : Int) - s0).toNat) Q (F0 m pc lsA ((.int n :: st).map (q_v az ad))) := by
  obtain ⟨hx, hb, hml, hown, hts, hnm, hK, hA, hZ, hN, hR1, hR2⟩ := hf
  have harr := hts _ (hM.2.2.2.2 pc at_ len ks ht)
  obtain ⟨g0, g1, g2, g3, -⟩ := hG
  have e1 : ((((q_new H (.inr (t, n.toNatClampNeg))).1.length : Nat) : Int) - n0).toNat = (((H.1.length : Nat) : Int) - n0).toNat + 1 := by
    simp only [q_new, List.length_append, List.length_cons, List.length_nil]
    omega
  have e2 : (((q_sl G (q_new H (.inr (t, n.toNatClampNeg))).1 : Nat) : Int) - s0).toNat = (((q_sl G H.1 : Nat) : Int) - s0).toNat + n.toNatClampNeg := by
    simp only [q_new, q_sl_app]
    simp only [q_sl, List.map_cons, List.map_nil, List.sum_cons, List.sum_nil, q_ss] at hs ⊢
    omega
  have fin : ∀ (ty : FieldType) (a0 : vp_A), g_at G t = ty → t < g_na G → (∀ cA : ClassId, va_RA s cA ty → s.vm.findClass ("[" ++ ty.toString) = some cA) → a0 = (n.toNatClampNeg, q_av G ad ([], (fun _ _ => 0), (fun _ _ => 0), fun _ _ => none) 0 t) →
      ∀ (q : Nat) (cA : ClassId) (H1 : Heap), va_K D (g_cl G) (q_tys G dA ++ [(cA, ty)]) s → va_P D (g_cl G) (q_w G dA ad H ++ [(q, .inl (cA, a0))]) H1 → va_D A (q_w G dA ad H ++ [(q, .inl (cA, a0))]) → va_S A s.heap H1 locs →
      W p l e R s m args below meth c H1 locs ((((H.1.length : Nat) : Int) - n0).toNat + 1) ((((q_sl G H.1 : Nat) : Int) - s0).toNat + n.toNatClampNeg) Q (F0 m (pc + 2) lsA (.ref q :: st.map (q_v az ad))) := by
    intro ty a0 hty htn hfc ha0 q cA H1 hK1 h1 h2 h3
    have c1 := hfc cA ((hK1.2 (q_tys G dA).length (cA, ty) (by simp)).2)
    have c2 := hfc (dA t) (by have := (hK.2 t _ (q_tys_at htn)).2; rw [hty] at this; exact this)
    have hcA : cA = dA t := Option.some.inj (c1.symm.trans c2)
    subst hcA
    have hq := q_w_new (G := G) (dA := dA) (ad := ad) wf.1 (.inr (t, n.toNatClampNeg)) q
    have hqe : q_e G dA ad ([], (fun _ _ => 0), (fun _ _ => 0), fun _ _ => none) 0 (.inr (t, n.toNatClampNeg)) = .inl (dA t, a0) := by rw [ha0]; rfl
    rw [hqe] at hq
    have k := kk (fun i => if i = H.1.length then q else ad i) H1 locs lsA (fun i hi => if_neg (by omega)) ⟨by rw [hq]; exact h1, by rw [hq]; exact h2, h3⟩ (q_L_ad (fun i hi => if_neg (by omega)) wf.2.2 hl)
    simp only [List.map_cons] at k
    rw [q_map_ad (ad := ad) (fun i hi => if_neg (by omega)) wf.2.1.tl, e1, e2] at k
    simpa only [q_v, if_true] using k
  cases at_ <;> simp only [q_at, reduceCtorEq, Option.some.injEq] at ha <;> subst ha
  case int =>
    exact va_newa (ty := .int) (a0 := (n.toNatClampNeg, .inl fun _ => 0)) hx hb harr rfl hK hw.1 hw.2.1 hw.2.2 hA (fun cA => rfl) hneg rfl (by simp only [componentBytes]; omega) (by omega) (by omega) (q_dec hM ht rfl) (fin .int _ g0 (by omega) (fun cA h => h) (by rw [q_av0 (by rw [g0]; rfl)]))
  case long =>
    exact va_newa (ty := .long) (a0 := (n.toNatClampNeg, .inr (.inl fun _ => 0))) hx hb harr rfl hK hw.1 hw.2.1 hw.2.2 hA (fun cA => rfl) hneg rfl (by simp only [componentBytes]; omega) (by omega) (by omega) (q_dec hM ht rfl) (fin .long _ g1 (by omega) (fun cA h => h) (by rw [q_av1 (by rw [g1]; rfl)]))
  case boolean =>
    exact va_newa (ty := .boolean) (a0 := (n.toNatClampNeg, .inl fun _ => 0)) hx hb harr rfl hK hw.1 hw.2.1 hw.2.2 hA (fun cA => rfl) hneg rfl (by simp only [componentBytes]; omega) (by omega) (by omega) (q_dec hM ht rfl) (fin .boolean _ g2 (by omega) (fun cA h => h) (by rw [q_av0 (by rw [g2]; rfl)]))
/-- a new array of references -/
theorem q_anew_ok (hG : q_okG G) (hM : q_okM G P M) (hf : q_fr G D dA az M p R s m args meth c A) {n0 s0 : Int} {pc i t b : Nat} {n : Int32} {len : Nat} {ks : List Nat} {ls : List (Option Value)} {st : List Value} {H : q_H} {ad : Nat → Nat} {Hp : Heap} {locs : List Loc} {lsA : Array Slot} (wf : q_ok4 ls (.int n :: st) H) (hw : q_wd G D dA s A ad H Hp locs) (hl : q_L az ad lsA (q_nL M) ls)
    (ht : q_tb M pc = some (.anewarray i, len, ks)) (hr : q_rs M (i + 100000) = some (4, t, b)) (hneg : ¬ n < 0) (hbig : n.toNatClampNeg ≤ 1000000) (hn : n0 ≤ H.1.length) (hs : s0 ≤ q_sl G H.1) (hc1 : ((((q_new H (.inr (t, n.toNatClampNeg))).1.length : Nat) : Int) - n0).toNat ≤ R.cells) (hc2 : (((q_sl G (q_new H (.inr (t, n.toNatClampNeg))).1 : Nat) : Int) - s0).toNat ≤ R.slots)
    (kk : q_K l G D dA az M p e R s m args below meth c A Q n0 s0 ad H (pc + 3, ls, .ref H.1.length :: st, q_new H (.inr (t, n.toNatClampNeg)))) :
    W p l e R s m args below meth c Hp locs ((((H.1.length : Nat) : Int) - n0).toNat) ((((q_sl G H.1 : Nat) : Int) - s0).toNat) Q (F0 m pc lsA ((.int n :: st).map (q_v az ad))) := by
  obtain ⟨hx, hb, hml, hown, hts, hnm, hK, hA, hZ, hN, hR1, hR2⟩ := hf
  obtain ⟨C, hC, htn, hcl, hov⟩ := (hM.2.2.1 (i + 100000) _ hr).2.2.1 rfl
  rw [Nat.add_sub_cancel] at hcl
  have e1 : ((((q_new H (.inr (t, n.toNatClampNeg))).1.length : Nat) : Int) - n0).toNat = (((H.1.length : Nat) : Int) - n0).toNat + 1 := by
    simp only [q_new, List.length_append, List.length_cons, List.length_nil]
    omega
  have e2 : (((q_sl G (q_new H (.inr (t, n.toNatClampNeg))).1 : Nat) : Int) - s0).toNat = (((q_sl G H.1 : Nat) : Int) - s0).toNat + n.toNatClampNeg := by
    simp only [q_new, q_sl_app]
    simp only [q_sl, List.map_cons, List.map_nil, List.sum_cons, List.sum_nil, q_ss] at hs ⊢
    omega
  refine va_newq hx hb hown (hts _ hcl) (hN _ hov) hK hw.1 hw.2.1 hw.2.2 hA hneg rfl (by omega) (by omega) (by omega) (q_dec hM ht rfl) fun q cA H1 hK1 h1 h2 h3 => ?_
  have c1 : s.vm.findClass ("[" ++ (FieldType.object C).toString) = some cA := by
    obtain ⟨_, _, _, _, _, h⟩ := (hK1.2 (q_tys G dA).length (cA, .object C) (by simp)).2
    exact h
  have c2 : s.vm.findClass ("[" ++ (FieldType.object C).toString) = some (dA t) := by
    have h := (hK.2 t _ (q_tys_at htn)).2
    rw [hC] at h
    obtain ⟨_, _, _, _, _, h⟩ := h
    exact h
  have hcA : cA = dA t := Option.some.inj (c1.symm.trans c2)
  subst hcA
  have hq := q_w_new (G := G) (dA := dA) (ad := ad) wf.1 (.inr (t, n.toNatClampNeg)) q
  have hqe : q_e G dA ad ([], (fun _ _ => 0), (fun _ _ => 0), fun _ _ => none) 0 (.inr (t, n.toNatClampNeg)) = .inl (dA t, n.toNatClampNeg, .inr (.inr (.inr (.inr (fun _ => none))))) := by
    simp only [q_e]
    rw [q_av2 (by rw [hC]; rfl)]
    rfl
  rw [hqe] at hq
  have k := kk (fun i => if i = H.1.length then q else ad i) H1 locs lsA (fun i hi => if_neg (by omega)) ⟨by rw [hq]; exact h1, by rw [hq]; exact h2, h3⟩ (q_L_ad (fun i hi => if_neg (by omega)) wf.2.2 hl)
  simp only [List.map_cons] at k
  rw [q_map_ad (ad := ad) (fun i hi => if_neg (by omega)) wf.2.1.tl, e1, e2] at k
  simpa only [q_v, if_true] using k
/-- a copy of ints -/
theorem q_copy_ok (hG : q_okG G) (hM : q_okM G P M) (hf : q_fr G D dA az M p R s m args meth c A) {cells slots pc i a b n0 n1 x1 x2 : Nat} {len : Nat} {ks : List Nat} {n sp dp : Int32} {st : List Value} {H : q_H} {ad : Nat → Nat} {Hp : Heap} {locs : List Loc} {lsA : Array Slot} (hw : q_wd G D dA s A ad H Hp locs)
    (ht : q_tb M pc = some (.invokestatic i, len, ks)) (hr : q_rs M i = some (24, x1, x2)) (ha : H.1[a]? = some (.inr (0, n0))) (hbb : H.1[b]? = some (.inr (0, n1))) (hst : q_cat st ≤ 8) (h1 : ¬ sp < 0) (h2 : ¬ dp < 0) (h3 : ¬ n < 0) (h4 : sp.toNatClampNeg + n.toNatClampNeg ≤ n0) (h5 : dp.toNatClampNeg + n.toNatClampNeg ≤ n1)
    (k : ∀ Hp' locs', q_wd G D dA s A ad (H.1, (fun i j => if i = b then va_cpy (H.2.1 a) (H.2.1 b) sp.toNatClampNeg dp.toNatClampNeg n.toNatClampNeg j else H.2.1 i j), H.2.2) Hp' locs' → W p l e R s m args below meth c Hp' locs' cells slots Q (F0 m (pc + 3) lsA (st.map (q_v az ad)))) (hls : lsA.size = q_nL M) :
    W p l e R s m args below meth c Hp locs cells slots Q (F0 m pc lsA ((.int n :: .int dp :: .ref b :: .int sp :: .ref a :: st).map (q_v az ad))) := by
  obtain ⟨hx, hb, hml, hown, hts, hnm, hK, hA, hZ, hN, hR1, hR2⟩ := hf
  obtain ⟨⟨r1, r2⟩, w1, w2, w3, w4⟩ := (hM.2.2.1 i _ hr).2.2.2.2.2.2.2.2.2.2.2 rfl
  obtain ⟨g0, g1, g2, g3, -⟩ := hG
  have e0 := q_arr_at (G := G) (dA := dA) (ad := ad) ha
  rw [q_av0 (by rw [g0]; rfl)] at e0
  have e1 := q_arr_at (G := G) (dA := dA) (ad := ad) hbb
  rw [q_av0 (by rw [g0]; rfl)] at e1
  have ht0 : (q_tys G dA)[0]? = some (dA 0, .int) := by rw [q_tys_at (by omega), g0]
  have hq := q_w_arr (G := G) (dA := dA) (ad := ad) (H' := (H.1, (fun i j => if i = b then va_cpy (H.2.1 a) (H.2.1 b) sp.toNatClampNeg dp.toNatClampNeg n.toNatClampNeg j else H.2.1 i j), H.2.2)) hbb rfl (fun i hi => by funext j; simp [hi]) (fun _ _ => rfl) (fun _ _ => rfl)
  rw [q_av0 (by rw [g0]; rfl)] at hq
  simp only [if_true] at hq
  have hcat : ((st.map (q_v az ad)).map fun v => v.category).sum = q_cat st := by
    simp only [q_cat, List.map_map]
    congr 1
    apply List.map_congr_left
    intro v _
    exact q_v_cat az ad v
  have hnw : nativeFrameWords "java/lang/System" "arraycopy" 5 ≤ 40 := by decide +kernel
  have hlo : ((st.map (q_v az ad)).map fun v => v.category).sum + (nativeFrameWords "java/lang/System" "arraycopy" 5 + 11) ≤ R.locals := by
    rw [hcat]
    omega
  exact va_copyi hx hb (hml.trans hls.symm) hown (hts _ w1) (hts _ w2) (hts _ w3) (hts _ w4) hK hw.1 hw.2.1 hw.2.2 a b 0 0 e0 e1 ht0 ht0 rfl h1 h2 h3 h4 h5 (fun _ _ => rfl) (by omega) hlo (q_dec hM ht rfl) fun H1 locs1 q1 q2 q3 => k H1 locs1 ⟨hq ▸ q1, hq ▸ q2, q3⟩
end
