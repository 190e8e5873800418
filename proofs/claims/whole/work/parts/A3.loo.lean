/-! The law's loop. -/
theorem tsw_all (y : Int32) : ∃ t, q_tsw 50 1002 0 19 #[94, 198, 271, 332, 381, 430, 443, 456, 524, 573, 586, 642, 679, 735, 790, 858, 872, 927, 952, 977] y = some t ∧ (t = 144 ∨ t = 248 ∨ t = 321 ∨ t = 382 ∨ t = 431 ∨ t = 480 ∨ t = 493 ∨ t = 506 ∨ t = 574 ∨ t = 623 ∨ t = 636 ∨ t = 692 ∨ t = 729 ∨ t = 785 ∨ t = 840 ∨ t = 908 ∨ t = 922 ∨ t = 977 ∨ t = 1002 ∨ t = 1027 ∨ t = 1052) := by
  unfold q_tsw
  by_cases q : 0 ≤ y.toInt ∧ y.toInt ≤ 19
  · have : y.toInt = 0 ∨ y.toInt = 1 ∨ y.toInt = 2 ∨ y.toInt = 3 ∨ y.toInt = 4 ∨ y.toInt = 5 ∨ y.toInt = 6 ∨ y.toInt = 7 ∨ y.toInt = 8 ∨ y.toInt = 9 ∨ y.toInt = 10 ∨ y.toInt = 11 ∨ y.toInt = 12 ∨ y.toInt = 13 ∨ y.toInt = 14 ∨ y.toInt = 15 ∨ y.toInt = 16 ∨ y.toInt = 17 ∨ y.toInt = 18 ∨ y.toInt = 19 := by omega
    rw [if_neg (by omega)]
    rcases this with z | z | z | z | z | z | z | z | z | z | z | z | z | z | z | z | z | z | z | z <;> (rw [z]; exact ⟨_, rfl, by decide⟩)
  · rw [if_pos (by omega)]
    exact ⟨1052, rfl, by decide⟩
section
variable {l : Launch} {D : va_G} {dA : Nat → ClassId} {az : Nat → Nat} {p : Program} {e : Env} {Rm : Room} {s : State} {m : MethodId} {args : Array Value} {below : List Frame} {meth : Method} {c : Code} {A : Nat → Prop} {Q : State → Prop} {N0 : Nat} {ad0 : Nat → Nat}
variable {sh : List q_Sh}
theorem L_one (xs : List Int32) (hf : q_fr (GG xs) D dA az ML p Rm s m args meth c A) (hTS : n_TS A s s.heap) (htr : l.stackTraces = false) {v w : Nat → Int → Int} {R : Nat → Nat → Option Nat} {i4 : Int32} {j : Nat} {n0 s0 : Int} (h : INV sh v w R) (h69 : sh[69]? = some (.inr (1, 1))) (hj : ixs xs i4 j) (k : ∀ n1 s1 v2 w2 R2, n0 - 1 ≤ n1 → s0 - 6 ≤ s1 → INV sh v2 w2 R2 → q_J l (GG xs) D dA az ML p e Rm s m args below meth c A Q N0 ad0 n1 s1 1052 [some (.retAddr 1), some (.ref 0), some (.ref 48), some (.ref 69), some (.int i4), none, none, none] [] (sh, zs v2, zt w2, R2)) (y : Int32) : ∃ t, q_tsw 50 1002 0 19 #[94, 198, 271, 332, 381, 430, 443, 456, 524, 573, 586, 642, 679, 735, 790, 858, 872, 927, 952, 977] y = some t ∧ q_J l (GG xs) D dA az ML p e Rm s m args below meth c A Q N0 ad0 n0 s0 t [some (.retAddr 1), some (.ref 0), some (.ref 48), some (.ref 69), some (.int i4), none, none, none] [] (sh, zs v, zt w, R) := by
  obtain ⟨t, ht, hc⟩ := tsw_all y
  refine ⟨t, ht, ?_⟩
  have hC := y_C_W (l := l) (e := e) (below := below) (Q := Q) (GG_ok xs) (PP_ok xs) (omML xs) hf N0 ad0 n0 s0
  have k0 := fun v2 w2 R2 (q : INV sh v2 w2 R2) => k n0 s0 v2 w2 R2 (by omega) (by omega) q
  rcases hc with rfl | rfl | rfl | rfl | rfl | rfl | rfl | rfl | rfl | rfl | rfl | rfl | rfl | rfl | rfl | rfl | rfl | rfl | rfl | rfl | rfl
  · exact L_unit xs hf hTS htr h h69 hj k
  · exact L_costs xs hC h hj k0
  · exact L_starts xs hC h hj k0
  · exact L_before xs hC h hj k0
  · exact L_demand xs hC h hj k0
  · exact L_plan xs hC h hj k0
  · exact L_redispatch xs hC h hj k0
  · exact L_output xs hf hTS htr h h69 hj k
  · exact L_set xs hC h hj k0
  · exact L_verify xs hC h hj k0
  · exact L_cost xs hf hTS htr h h69 hj k
  · exact L_price xs hC h hj k0
  · exact L_priceOf xs hf hTS htr h h69 hj k
  · exact L_alone xs hf hTS htr h h69 hj k
  · exact L_lone xs hf hTS htr h h69 hj k
  · exact L_bound xs hC h hj k0
  · exact L_improve xs hf hTS htr h h69 hj k
  · exact L_keep xs hC h hj k0
  · exact L_take xs hC h hj k0
  · exact L_count xs hC h hj k0
  · exact k0 v w R h
/-- what is left of the script, and of the room for what is thrown -/
theorem L_loop (xs : List Int32) (hL : xs.length < 1000000) (hf : q_fr (GG xs) D dA az ML p Rm s m args meth c A) (hTS : n_TS A s s.heap) (htr : l.stackTraces = false) (h69 : sh[69]? = some (.inr (1, 1))) {nz sz : Int} (fin : ∀ (n1 s1 : Int) (i4 : Int32) (v2 w2 : Nat → Int → Int) (R2 : Nat → Nat → Option Nat), nz ≤ n1 → sz ≤ s1 → INV sh v2 w2 R2 → q_J l (GG xs) D dA az ML p e Rm s m args below meth c A Q N0 ad0 n1 s1 1059 [some (.retAddr 1), some (.ref 0), some (.ref 48), some (.ref 69), some (.int i4), none, none, none] [.int 1] (sh, zs v2, zt w2, R2)) :
    ∀ (T : Nat) (i : Int) (n0 s0 : Int) (v w : Nat → Int → Int) (R : Nat → Nat → Option Nat), 1 ≤ i → i ≤ xs.length + 6 → (xs.length : Int) - 6 < i + 6 * T → nz + T ≤ n0 → sz + 6 * T ≤ s0 → INV sh v w R → q_J l (GG xs) D dA az ML p e Rm s m args below meth c A Q N0 ad0 n0 s0 33 [some (.retAddr 1), some (.ref 0), some (.ref 48), some (.ref 69), some (.int (zi i)), none, none, none] [] (sh, zs v, zt w, R) := by
  intro T
  induction T with
  | zero =>
    intro i n0 s0 v w R h1 h2 h3 h4 h5 h
    have hC := y_C_W (l := l) (e := e) (below := below) (Q := Q) (GG_ok xs) (PP_ok xs) (omML xs) hf N0 ad0 n0 s0
    refine y_law_33 xs hC 0 48 69 (zi i) _ ⟨fun _ => fin n0 s0 _ v w R (by omega) (by omega) h, fun q => absurd ?_ q⟩
    rw [show Int32.ofNat xs.length = zi (xs.length : Nat) from (Int32.ofInt_eq_ofNat).symm, show (6 : Int32) = zi 6 from rfl, zi_sub, zi_lt (by omega) (by omega) (by omega) (by omega)]
    omega
  | succ T ih =>
    intro i n0 s0 v w R h1 h2 h3 h4 h5 h
    have hC := fun n s_ => y_C_W (l := l) (e := e) (below := below) (Q := Q) (GG_ok xs) (PP_ok xs) (omML xs) hf N0 ad0 n s_
    have el : Int32.ofNat xs.length = zi (xs.length : Nat) := (Int32.ofInt_eq_ofNat).symm
    refine y_law_33 xs (hC n0 s0) 0 48 69 (zi i) _ ⟨fun _ => fin n0 s0 _ v w R (by omega) (by omega) h, fun q => ?_⟩
    rw [el, show (6 : Int32) = zi 6 from rfl, zi_sub, zi_lt (by omega) (by omega) (by omega) (by omega)] at q
    obtain ⟨j, ej⟩ : ∃ j : Nat, (j : Int) = i := ⟨i.toNat, by omega⟩
    have hx : ∀ (d : Int) (n : Nat), 0 ≤ d → d ≤ 5 → n = j + d.toNat → q_ix (zi i + zi d) xs.length = some n := fun d n d1 d2 en => by
      rw [zi_add, zi_ix (by omega) (by omega) (by omega)]
      congr 1
      omega
    have hj : ixs xs (zi i) j := ⟨hx 1 _ (by decide) (by decide) rfl, hx 2 _ (by decide) (by decide) rfl, hx 3 _ (by decide) (by decide) rfl, hx 4 _ (by decide) (by decide) rfl, hx 5 _ (by decide) (by decide) rfl⟩
    refine ⟨j, by rw [zi_ix (by omega) (by omega) (by omega)]; congr 1; omega, ?_⟩
    refine L_one xs hf hTS htr h h69 hj (fun n1 s1 v2 w2 R2 a1 a2 h2' => ?_) _
    refine y_law_1052 xs (hC n1 s1) 0 48 69 (zi i) _ ?_
    rw [show (6 : Int32) = zi 6 from rfl, zi_add]
    exact ih (i + 6) n1 s1 v2 w2 R2 (by omega) (by omega) (by omega) (by omega) (by omega) h2'
end
