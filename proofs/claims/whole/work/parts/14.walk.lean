section
variable {l : Launch} {G : q_G} {P : Nat → q_M} {D : va_G} {dA : Nat → ClassId} {az : Nat → Nat} {M : q_M} {p : Program} {e : Env} {R : Room} {s : State} {m : MethodId} {args : Array Value} {below : List Frame} {meth : Method} {c : Code} {A : Nat → Prop} {Q : State → Prop}
/-- where a walk goes on: the abstract state z -/
def q_K (l : Launch) (G : q_G) (D : va_G) (dA : Nat → ClassId) (az : Nat → Nat) (M : q_M) (p : Program) (e : Env) (R : Room) (s : State) (m : MethodId) (args : Array Value) (below : List Frame) (meth : Method) (c : Code) (A : Nat → Prop) (Q : State → Prop) (n0 s0 : Int) (ad : Nat → Nat) (H : q_H) (z : q_R4) : Prop :=
  ∀ (ad' : Nat → Nat) (Hp' : Heap) (locs' : List Loc) (lsA' : Array Slot), (∀ i, i < H.1.length → ad' i = ad i) → q_wd G D dA s A ad' z.2.2.2 Hp' locs' → q_L az ad' lsA' (q_nL M) z.2.1 → W p l e R s m args below meth c Hp' locs' ((((z.2.2.2.1.length : Nat) : Int) - n0).toNat) ((((q_sl G z.2.2.2.1 : Nat) : Int) - s0).toNat) Q (F0 m z.1 lsA' (z.2.2.1.map (q_v az ad')))
theorem q_pu_ok (hM : q_okM G P M) (hf : q_fr G D dA az M p R s m args meth c A) {n0 s0 : Int} {pc : Nat} {ins : Instr} {len : Nat} {ks : List Nat} (ht : q_tb M pc = some (ins, len, ks)) {ls : List (Option Value)} {st : List Value} {H : q_H} {ad : Nat → Nat} {Hp : Heap} {locs : List Loc} {lsA : Array Slot} {q : Nat × Value} (h : q_pu M ins = some q)
    (hw : q_wd G D dA s A ad H Hp locs) (hl : q_L az ad lsA (q_nL M) ls) (kk : q_K l G D dA az M p e R s m args below meth c A Q n0 s0 ad H (pc + q.1, ls, q.2 :: st, H)) :
    W p l e R s m args below meth c Hp locs ((((H.1.length : Nat) : Int) - n0).toNat) ((((q_sl G H.1 : Nat) : Int) - s0).toNat) Q (F0 m pc lsA (st.map (q_v az ad))) := by
  obtain ⟨hx, hb, hml, hown, hts, hnm, hK, hA, hZ, hN, hR1, hR2⟩ := hf
  have k := kk ad Hp locs lsA (fun _ _ => rfl) hw hl
  cases ins <;> simp only [q_pu, reduceCtorEq, Option.some.injEq] at h
  case iconst n =>
    subst h
    exact lv_iconst hx hb (q_dec hM ht rfl) rfl k
  case bipush n =>
    subst h
    exact lv_bipush hx hb (q_dec hM ht rfl) rfl k
  case sipush n =>
    subst h
    exact lv_sipush hx hb (q_dec hM ht rfl) rfl k
  case lconst n =>
    subst h
    exact lv_lconst hx hb (q_dec hM ht rfl) rfl k
  case ldc i =>
    split at h
    · rename_i x hc
      cases h
      exact lv_ldc hx hb hown (hts _ ((hM.2.2.2.1 i _ hc).1 x rfl)) (q_dec hM ht rfl) k
    · cases h
  case ldc2_w i =>
    split at h
    · rename_i x hc
      cases h
      exact lv_ldc2 hx hb hown (hts _ ((hM.2.2.2.1 i _ hc).2 x rfl)) (q_dec hM ht rfl) k
    · cases h
theorem q_lo_ok (hM : q_okM G P M) (hf : q_fr G D dA az M p R s m args meth c A) {n0 s0 : Int} {pc : Nat} {ins : Instr} {len : Nat} {ks : List Nat} (ht : q_tb M pc = some (ins, len, ks)) {ls : List (Option Value)} {st : List Value} {H : q_H} {ad : Nat → Nat} {Hp : Heap} {locs : List Loc} {lsA : Array Slot} {q : Nat × Nat × Nat} {v : Value} (h : q_lo ins = some q) (hv : ls[q.2.1]? = some (some v)) (hk : q_vk v = q.2.2) (hk3 : q.2.2 < 3)
    (hw : q_wd G D dA s A ad H Hp locs) (hl : q_L az ad lsA (q_nL M) ls) (kk : q_K l G D dA az M p e R s m args below meth c A Q n0 s0 ad H (pc + q.1, ls, v :: st, H)) :
    W p l e R s m args below meth c Hp locs ((((H.1.length : Nat) : Int) - n0).toNat) ((((q_sl G H.1 : Nat) : Int) - s0).toNat) Q (F0 m pc lsA (st.map (q_v az ad))) := by
  obtain ⟨hx, hb, hml, hown, hts, hnm, hK, hA, hZ, hN, hR1, hR2⟩ := hf
  have k := kk ad Hp locs lsA (fun _ _ => rfl) hw hl
  have hg := hl.2.2 _ _ hv
  cases ins <;> simp only [q_lo, reduceCtorEq, Option.some.injEq] at h <;> subst h <;> (cases v <;> simp only [q_vk] at hk <;> first | (exfalso; omega) | skip)
  case iload_n.int n x => exact lv_iload_n hx hb (q_dec hM ht rfl) rfl hg k
  case iload.int n x => exact lv_iload hx hb (q_dec hM ht rfl) hg k
  case lload_n.long n x => exact lv_lload_n hx hb (q_dec hM ht rfl) rfl hg k
  case lload.long n x => exact lv_lload hx hb (q_dec hM ht rfl) hg k
  case aload_n.ref n x => exact lv_aload_n hx hb (q_dec hM ht rfl) rfl hg k
  case aload.ref n x => exact lv_aload hx hb (q_dec hM ht rfl) hg k
  case aload_n.retAddr n x => exact lv_aload_n hx hb (q_dec hM ht rfl) rfl hg k
  case aload.retAddr n x => exact lv_aload hx hb (q_dec hM ht rfl) hg k
theorem q_so_ok (hM : q_okM G P M) (hf : q_fr G D dA az M p R s m args meth c A) {n0 s0 : Int} {pc : Nat} {ins : Instr} {len : Nat} {ks : List Nat} (ht : q_tb M pc = some (ins, len, ks)) {ls : List (Option Value)} {st : List Value} {H : q_H} {ad : Nat → Nat} {Hp : Heap} {locs : List Loc} {lsA : Array Slot} {q : Nat × Nat × Nat} {v : Value} (h : q_so ins = some q) (hk : q_vk v = q.2.2) (hk3 : q.2.2 < 3) (hi : q.2.1 + v.category ≤ q_nL M)
    (hw : q_wd G D dA s A ad H Hp locs) (hl : q_L az ad lsA (q_nL M) ls) (kk : q_K l G D dA az M p e R s m args below meth c A Q n0 s0 ad H (pc + q.1, q_set ls q.2.1 v, st, H)) :
    W p l e R s m args below meth c Hp locs ((((H.1.length : Nat) : Int) - n0).toNat) ((((q_sl G H.1 : Nat) : Int) - s0).toNat) Q (F0 m pc lsA ((v :: st).map (q_v az ad))) := by
  obtain ⟨hx, hb, hml, hown, hts, hnm, hK, hA, hZ, hN, hR1, hR2⟩ := hf
  have k := fun lsA' => kk ad Hp locs lsA' (fun _ _ => rfl) hw
  have hh := q_L_has hl
  cases ins <;> simp only [q_so, reduceCtorEq, Option.some.injEq] at h <;> subst h <;> (cases v <;> simp only [q_vk] at hk <;> first | (exfalso; omega) | skip)
  case istore_n.int n x => exact lv_istore_n hx hb (q_dec hM ht rfl) rfl hh (by simp only [Value.category] at hi; omega) rfl fun ls' h' => k ls' (q_L_set1 (v := .int x) rfl h')
  case istore.int n x => exact lv_istore hx hb (q_dec hM ht rfl) hh (by simp only [Value.category] at hi; omega) rfl fun ls' h' => k ls' (q_L_set1 (v := .int x) rfl h')
  case lstore_n.long n x => exact lv_lstore_n hx hb (q_dec hM ht rfl) rfl hh (by simp only [Value.category] at hi; omega) rfl fun ls' h' => k ls' (q_L_set2 (v := .long x) rfl h')
  case lstore.long n x => exact lv_lstore hx hb (q_dec hM ht rfl) hh (by simp only [Value.category] at hi; omega) rfl fun ls' h' => k ls' (q_L_set2 (v := .long x) rfl h')
  case astore_n.ref n x => exact lv_astore_n hx hb (q_dec hM ht rfl) rfl hh (by simp only [Value.category] at hi; omega) rfl fun ls' h' => k ls' (q_L_set1 (v := .ref x) rfl h')
  case astore.ref n x => exact lv_astore hx hb (q_dec hM ht rfl) hh (by simp only [Value.category] at hi; omega) rfl fun ls' h' => k ls' (q_L_set1 (v := .ref x) rfl h')
  case astore_n.retAddr n x => exact lv_astore_n hx hb (q_dec hM ht rfl) rfl hh (by simp only [Value.category] at hi; omega) rfl fun ls' h' => k ls' (q_L_set1 (v := .retAddr x) rfl h')
  case astore.retAddr n x => exact lv_astore hx hb (q_dec hM ht rfl) hh (by simp only [Value.category] at hi; omega) rfl fun ls' h' => k ls' (q_L_set1 (v := .retAddr x) rfl h')
theorem q_b2_ok (hM : q_okM G P M) (hf : q_fr G D dA az M p R s m args meth c A) {n0 s0 : Int} {pc : Nat} {ins : Instr} {len : Nat} {ks : List Nat} (ht : q_tb M pc = some (ins, len, ks)) {ls : List (Option Value)} {st : List Value} {H : q_H} {ad : Nat → Nat} {Hp : Heap} {locs : List Loc} {lsA : Array Slot} {f : Int32 → Int32 → Option Int32} {x y w : Int32} (h : q_b2 ins = some f) (hv : f x y = some w)
    (hw : q_wd G D dA s A ad H Hp locs) (hl : q_L az ad lsA (q_nL M) ls) (kk : q_K l G D dA az M p e R s m args below meth c A Q n0 s0 ad H (pc + 1, ls, .int w :: st, H)) :
    W p l e R s m args below meth c Hp locs ((((H.1.length : Nat) : Int) - n0).toNat) ((((q_sl G H.1 : Nat) : Int) - s0).toNat) Q (F0 m pc lsA ((.int y :: .int x :: st).map (q_v az ad))) := by
  obtain ⟨hx, hb, hml, hown, hts, hnm, hK, hA, hZ, hN, hR1, hR2⟩ := hf
  have k := kk ad Hp locs lsA (fun _ _ => rfl) hw hl
  cases ins <;> simp only [q_b2, reduceCtorEq, Option.some.injEq] at h <;> subst h
  case iadd => cases hv; exact lv_iadd hx hb (q_dec hM ht rfl) k
  case isub => cases hv; exact lv_isub hx hb (q_dec hM ht rfl) k
  case imul => cases hv; exact lv_imul hx hb (q_dec hM ht rfl) k
  case iand => cases hv; exact lv_iand hx hb (q_dec hM ht rfl) k
  case ior => cases hv; exact lv_ior hx hb (q_dec hM ht rfl) k
  case ishl => cases hv; exact lv_ishl hx hb (q_dec hM ht rfl) k
  case idiv =>
    simp only at hv
    split at hv
    · cases hv
    · rename_i hy
      cases hv
      exact lv_idiv hx hb (q_dec hM ht rfl) hy k
  case irem =>
    simp only at hv
    split at hv
    · cases hv
    · rename_i hy
      cases hv
      exact lv_irem hx hb (q_dec hM ht rfl) hy k
theorem q_l2_ok (hM : q_okM G P M) (hf : q_fr G D dA az M p R s m args meth c A) {n0 s0 : Int} {pc : Nat} {ins : Instr} {len : Nat} {ks : List Nat} (ht : q_tb M pc = some (ins, len, ks)) {ls : List (Option Value)} {st : List Value} {H : q_H} {ad : Nat → Nat} {Hp : Heap} {locs : List Loc} {lsA : Array Slot} {f : Int64 → Int64 → Option Int64} {x y w : Int64} (h : q_l2 ins = some f) (hv : f x y = some w)
    (hw : q_wd G D dA s A ad H Hp locs) (hl : q_L az ad lsA (q_nL M) ls) (kk : q_K l G D dA az M p e R s m args below meth c A Q n0 s0 ad H (pc + 1, ls, .long w :: st, H)) :
    W p l e R s m args below meth c Hp locs ((((H.1.length : Nat) : Int) - n0).toNat) ((((q_sl G H.1 : Nat) : Int) - s0).toNat) Q (F0 m pc lsA ((.long y :: .long x :: st).map (q_v az ad))) := by
  obtain ⟨hx, hb, hml, hown, hts, hnm, hK, hA, hZ, hN, hR1, hR2⟩ := hf
  have k := kk ad Hp locs lsA (fun _ _ => rfl) hw hl
  cases ins <;> simp only [q_l2, reduceCtorEq, Option.some.injEq] at h <;> subst h
  case ladd => cases hv; exact lv_ladd hx hb (q_dec hM ht rfl) k
  case lsub => cases hv; exact lv_lsub hx hb (q_dec hM ht rfl) k
  case lmul => cases hv; exact lv_lmul hx hb (q_dec hM ht rfl) k
  case ldiv =>
    simp only at hv
    split at hv
    · cases hv
    · rename_i hy
      cases hv
      exact lv_ldiv hx hb (q_dec hM ht rfl) hy k
  case lrem =>
    simp only at hv
    split at hv
    · cases hv
    · rename_i hy
      cases hv
      exact lv_lrem hx hb (q_dec hM ht rfl) hy k
/-- a read of a field -/
theorem q_get_ok (hM : q_okM G P M) (hf : q_fr G D dA az M p R s m args meth c A) {cells slots pc i tag ci sl a : Nat} {len : Nat} {ks : List Nat} (ht : q_tb M pc = some (.getfield i, len, ks)) (hr : q_rs M i = some (tag, ci, sl)) (htag : tag < 3) {st : List Value} {H : q_H} (ha : H.1[a]? = some (.inl ci)) {ad : Nat → Nat} {Hp : Heap} {locs : List Loc} {lsA : Array Slot}
    (hw : q_wd G D dA s A ad H Hp locs) (k : W p l e R s m args below meth c Hp locs cells slots Q (F0 m (pc + 3) lsA ((q_fa G H a ci sl :: st).map (q_v az ad)))) :
    W p l e R s m args below meth c Hp locs cells slots Q (F0 m pc lsA ((.ref a :: st).map (q_v az ad))) := by
  obtain ⟨hx, hb, hml, hown, hts, hnm, hK, hA, hZ, hN, hR1, hR2⟩ := hf
  obtain ⟨C, T, N, hc, hsl, hin, hty, hnd, hlk, -, -⟩ := (hM.2.2.1 i _ hr).1 htag
  have he := q_w_at (G := G) (dA := dA) (ad := ad) ha
  have hnf : q_nf G ci = N := by simp only [q_nf]; rw [hc]
  have hv : ((List.range (q_nf G ci)).map (q_fv G ad H a ci))[sl]? = some (q_fv G ad H a ci sl) := by
    rw [hnf]; simp [hsl]
  simp only [List.map_cons] at k ⊢
  rw [q_fa_v] at k
  rcases hlk with hlk | ⟨host, hlk⟩
  · exact va_get hx hb hts hin hown hK hw.1 a he hc sl hsl (hts _ hlk) (fun _ h => h) hv (q_dec hM ht rfl) k
  · exact va_getN hx hb hts hin hown hK hw.1 a he hc sl hsl (va_Nw.use rfl (hN _ hlk)) (fun _ h => h) hv (q_dec hM ht rfl) k
/-- a write of a field: the value fits, and the cells behind it are those of H' -/
theorem q_put_ok (hM : q_okM G P M) (hf : q_fr G D dA az M p R s m args meth c A) {cells slots pc i tag ci sl a : Nat} {len : Nat} {ks : List Nat} (ht : q_tb M pc = some (.putfield i, len, ks)) (hr : q_rs M i = some (tag, ci, sl)) (htag : tag = 0 ∨ tag = 2) {st : List Value} {H H' : q_H} (ha : H.1[a]? = some (.inl ci)) {ad : Nat → Nat} {Hp : Heap} {locs : List Loc} {lsA : Array Slot} {v : Value} (hp : q_pf G H a ci sl v = some H')
    (hw : q_wd G D dA s A ad H Hp locs) (k : ∀ Hp' locs', q_wd G D dA s A ad H' Hp' locs' → W p l e R s m args below meth c Hp' locs' cells slots Q (F0 m (pc + 3) lsA (st.map (q_v az ad)))) :
    W p l e R s m args below meth c Hp locs cells slots Q (F0 m pc lsA ((v :: .ref a :: st).map (q_v az ad))) := by
  obtain ⟨hx, hb, hml, hown, hts, hnm, hK, hA, hZ, hN, hR1, hR2⟩ := hf
  obtain ⟨C, T, N, hc, hsl, hin, hty, hnd, hlk, hfin0, hfin2⟩ := (hM.2.2.1 i _ hr).1 (by show tag < 3; omega)
  have he := q_w_at (G := G) (dA := dA) (ad := ad) ha
  have hnf : q_nf G ci = N := by simp only [q_nf]; rw [hc]
  have hl : sl < ((List.range (q_nf G ci)).map (q_fv G ad H a ci)).length := by rw [hnf]; simpa using hsl
  have key : narrow (g_ft G ci sl) (q_v az ad v) = q_v az ad v ∧ fits (g_ft G ci sl) (q_v az ad v) = true ∧ (q_w G dA ad H).set a (ad a, .inr (ci, ((List.range (q_nf G ci)).map (q_fv G ad H a ci)).set sl (q_v az ad v))) = q_w G dA ad H' := by
    have hset : ∀ (H' : q_H) (u : Value), H'.1 = H.1 → (∀ i, i ≠ a → H'.2.1 i = H.2.1 i) → (∀ i, i ≠ a → H'.2.2.1 i = H.2.2.1 i) → (∀ i, i ≠ a → H'.2.2.2 i = H.2.2.2 i) → q_fv G ad H' a ci sl = u → (∀ j, j ≠ sl → q_fv G ad H' a ci j = q_fv G ad H a ci j) →
        (q_w G dA ad H).set a (ad a, .inr (ci, ((List.range (q_nf G ci)).map (q_fv G ad H a ci)).set sl u)) = q_w G dA ad H' := by
      intro H' u h0 h1 h2 h3 h4 h5
      refine q_w_set h0 ha ?_ h1 h2 h3
      simp only [q_e]
      congr 2
      apply List.ext_getElem?
      intro j
      rw [List.getElem?_set, List.getElem?_map]
      by_cases hj : sl = j
      · subst hj
        rw [if_pos rfl, if_pos hl]
        rw [List.getElem?_range (by rw [hnf]; exact hsl)]
        simp only [Option.map_some]
        rw [h4]
      · rw [if_neg hj, List.getElem?_map]
        cases hr' : (List.range (q_nf G ci))[j]? with
        | none => rfl
        | some x =>
          have hx' : x = j := by
            obtain ⟨hlt, hx'⟩ := List.getElem?_eq_some_iff.mp hr'
            simpa using hx'.symm
          simp only [Option.map_some]
          rw [hx', h5 j (Ne.symm hj)]
    cases v <;> simp only [q_pf, reduceCtorEq] at hp
    case int x =>
      split at hp
      · rename_i hq
        cases hp
        refine ⟨hq.2.2, hq.2.1, hset _ _ rfl (fun i hi => q_up_row _ _ hi) (fun _ _ => rfl) (fun _ _ => rfl) ?_ (fun j hj => ?_)⟩
        · simp [q_fv, hq.1, q_up, q_v]
        · simp [q_fv, q_up, hj]
      · cases hp
    case long x =>
      split at hp
      · rename_i hq
        cases hp
        refine ⟨by rw [hq]; rfl, by rw [hq]; rfl, hset _ _ rfl (fun _ _ => rfl) (fun i hi => q_up_row _ _ hi) (fun _ _ => rfl) ?_ (fun j hj => ?_)⟩
        · simp [q_fv, hq, q_kd, q_up, q_v]
        · simp [q_fv, q_up, hj]
      · cases hp
    case ref b =>
      split at hp
      · rename_i hq
        cases hp
        have hk : (∃ n, g_ft G ci sl = .object n) ∨ ∃ n, g_ft G ci sl = .array n := by
          cases hg : g_ft G ci sl with
          | object n => exact Or.inl ⟨n, rfl⟩
          | array n => exact Or.inr ⟨n, rfl⟩
          | _ => rw [hg] at hq; cases hq
        refine ⟨?_, ?_, hset _ _ rfl (fun _ _ => rfl) (fun _ _ => rfl) (fun i hi => q_up_row _ _ hi) ?_ (fun j hj => ?_)⟩
        · rcases hk with ⟨n, hk⟩ | ⟨n, hk⟩ <;> rw [hk] <;> rfl
        · rcases hk with ⟨n, hk⟩ | ⟨n, hk⟩ <;> rw [hk] <;> rfl
        · simp [q_fv, hq, q_up, q_v, va_rf]
        · simp [q_fv, q_up, hj]
      · cases hp
  obtain ⟨k1, k2, k3⟩ := key
  have kk : ∀ (H1 : Heap) (locs1 : List Loc), va_P D (g_cl G) ((q_w G dA ad H).set a (ad a, .inr (ci, ((List.range (q_nf G ci)).map (q_fv G ad H a ci)).set sl (q_v az ad v)))) H1 → va_D A ((q_w G dA ad H).set a (ad a, .inr (ci, ((List.range (q_nf G ci)).map (q_fv G ad H a ci)).set sl (q_v az ad v)))) → va_S A s.heap H1 locs1 → W p l e R s m args below meth c H1 locs1 cells slots Q (F0 m (pc + 3) lsA (st.map (q_v az ad))) := fun H1 locs1 h1 h2 h3 => k H1 locs1 ⟨k3 ▸ h1, k3 ▸ h2, h3⟩
  simp only [List.map_cons]
  rcases htag with rfl | rfl
  · rcases hlk with hlk | ⟨host, hlk⟩
    · exact va_put hx hb hts hin (g_ft G ci) hty hnd hown hK hw.1 hw.2.1 hw.2.2 a he hc sl hsl (hts _ hlk) (fun _ h => h) (hfin0 rfl) (hty sl hsl) k1 k2 hl (q_dec hM ht rfl) kk
    · exact va_putN hx hb hts hin (g_ft G ci) hty hnd hown hK hw.1 hw.2.1 hw.2.2 a he hc sl hsl (va_Nw.use rfl (hN _ hlk)) (fun _ h => h) (hfin0 rfl) (hty sl hsl) k1 k2 hl (q_dec hM ht rfl) kk
  · obtain ⟨f1, f2, f3, f4⟩ := hfin2 rfl
    exact va_putF hx hb hts hin (g_ft G ci) hty hnd hown hK hw.1 hw.2.1 hw.2.2 a he hc sl hsl (hts _ f4) (fun _ h => h) f1 (hnm.trans f2) f3 (hty sl hsl) k1 k2 hl (q_dec hM ht rfl) kk
end
