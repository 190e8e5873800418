/-! What holds before the first call. -/
theorem iw_0 (a : Nat) (j : Int) : i_w a j = 0 := by
  show zu i_w0 15 6 0 a j = 0
  unfold zu i_w0
  split <;> rfl
theorem zsum_0 {f : Int → Int} (h : ∀ i, f i = 0) : ∀ n : Nat, zsum f n = 0
  | 0 => rfl
  | n + 1 => by
    rw [zsum_s, zsum_0 h n, h]
    rfl
section
variable (h X : Int)
/-- rows where nothing was written -/
theorem iv_0 {a : Nat} (ha : ¬ (a = 2 ∨ a = 8 ∨ a = 15 ∨ a = 32 ∨ a = 36 ∨ a = 39 ∨ a = 40 ∨ a = 43 ∨ a = 44 ∨ a = 47 ∨ a = 48)) (j : Int) : i_v h X a j = 0 := by
  have h1 : a ≠ 2 := by omega
  have h2 : a ≠ 8 := by omega
  have h3 : a ≠ 15 := by omega
  have h4 : a ≠ 32 := by omega
  have h5 : a ≠ 36 := by omega
  have h6 : a ≠ 39 := by omega
  have h7 : a ≠ 40 := by omega
  have h8 : a ≠ 43 := by omega
  have h9 : a ≠ 44 := by omega
  have h10 : a ≠ 47 := by omega
  have h11 : a ≠ 48 := by omega
  simp [i_v0, i_v1, i_v2, i_v3, i_v4, i_v5, i_v6, i_v7, i_v8, i_v9, i_v10, i_v11, i_v12, i_v13, i_v14, i_v15, i_v16, i_v17, i_v18, i_v19, i_v20, i_v21, i_v22, i_v23, i_v24, i_v25, i_v26, i_v27, i_v28, i_v29, i_v30, i_v31, i_v32, zu, fnx, h1, h2, h3, h4, h5, h6, h7, h8, h9, h10, h11]
theorem iv_48 (j : Int) : i_v h X 48 j = if j = 1 then hhr X else if j = 18 then 64 else 0 := by
  simp [i_v0, i_v1, i_v2, i_v3, i_v4, i_v5, i_v6, i_v7, i_v8, i_v9, i_v10, i_v11, i_v12, i_v13, i_v14, i_v15, i_v16, i_v17, i_v18, i_v19, i_v20, i_v21, i_v22, i_v23, i_v24, i_v25, i_v26, i_v27, i_v28, i_v29, i_v30, i_v31, i_v32, zu, fnx]
theorem iv_32 (j : Int) : i_v h X 32 j = if j = 0 then h else 0 := by
  simp [i_v0, i_v1, i_v2, i_v3, i_v4, i_v5, i_v6, i_v7, i_v8, i_v9, i_v10, i_v11, i_v12, i_v13, i_v14, i_v15, i_v16, i_v17, i_v18, i_v19, i_v20, i_v21, i_v22, i_v23, i_v24, i_v25, i_v26, i_v27, i_v28, i_v29, i_v30, i_v31, i_v32, zu, fnx]
theorem iv_15 (j : Int) : i_v h X 15 j = if j = 5 then 64 else 0 := by
  simp [i_v0, i_v1, i_v2, i_v3, i_v4, i_v5, i_v6, i_v7, i_v8, i_v9, i_v10, i_v11, i_v12, i_v13, i_v14, i_v15, i_v16, i_v17, i_v18, i_v19, i_v20, i_v21, i_v22, i_v23, i_v24, i_v25, i_v26, i_v27, i_v28, i_v29, i_v30, i_v31, i_v32, zu, fnx]
  omega
theorem iv_u (u : Int) (u1 : 0 ≤ u) (u2 : u < 3) : i_v h X (uc u) 0 = 1 ∧ i_v h X (uc u) 1 = 0 ∧ i_v h X (uc u) 2 = 1 ∧ i_v h X (uc u) 3 = 1 ∧ i_v h X (uc u) 4 = 1 ∧ i_v h X (uc u) 5 = 0 ∧ i_v h X (uc u) 6 = 3 := by
  have : u = 0 ∨ u = 1 ∨ u = 2 := by omega
  rcases this with rfl | rfl | rfl
  · show i_v h X 36 0 = 1 ∧ i_v h X 36 1 = 0 ∧ i_v h X 36 2 = 1 ∧ i_v h X 36 3 = 1 ∧ i_v h X 36 4 = 1 ∧ i_v h X 36 5 = 0 ∧ i_v h X 36 6 = 3
    simp [i_v0, i_v1, i_v2, i_v3, i_v4, i_v5, i_v6, i_v7, i_v8, i_v9, i_v10, i_v11, i_v12, i_v13, i_v14, i_v15, i_v16, i_v17, i_v18, i_v19, i_v20, i_v21, i_v22, i_v23, i_v24, i_v25, i_v26, i_v27, i_v28, i_v29, i_v30, i_v31, i_v32, zu, fnx]
  · show i_v h X 40 0 = 1 ∧ i_v h X 40 1 = 0 ∧ i_v h X 40 2 = 1 ∧ i_v h X 40 3 = 1 ∧ i_v h X 40 4 = 1 ∧ i_v h X 40 5 = 0 ∧ i_v h X 40 6 = 3
    simp [i_v0, i_v1, i_v2, i_v3, i_v4, i_v5, i_v6, i_v7, i_v8, i_v9, i_v10, i_v11, i_v12, i_v13, i_v14, i_v15, i_v16, i_v17, i_v18, i_v19, i_v20, i_v21, i_v22, i_v23, i_v24, i_v25, i_v26, i_v27, i_v28, i_v29, i_v30, i_v31, i_v32, zu, fnx]
  · show i_v h X 44 0 = 1 ∧ i_v h X 44 1 = 0 ∧ i_v h X 44 2 = 1 ∧ i_v h X 44 3 = 1 ∧ i_v h X 44 4 = 1 ∧ i_v h X 44 5 = 0 ∧ i_v h X 44 6 = 3
    simp [i_v0, i_v1, i_v2, i_v3, i_v4, i_v5, i_v6, i_v7, i_v8, i_v9, i_v10, i_v11, i_v12, i_v13, i_v14, i_v15, i_v16, i_v17, i_v18, i_v19, i_v20, i_v21, i_v22, i_v23, i_v24, i_v25, i_v26, i_v27, i_v28, i_v29, i_v30, i_v31, i_v32, zu, fnx]
theorem iv_n (u : Int) (u1 : 0 ≤ u) (u2 : u < 3) (j : Int) (j1 : 0 ≤ j) (j2 : j < 75) : i_v h X (uc u + 3) j = znx 1 0 1 1 1 (j / 5) (j % 5) := by
  have q : 0 ≤ j ∧ j < 75 := ⟨j1, j2⟩
  have : u = 0 ∨ u = 1 ∨ u = 2 := by omega
  rcases this with rfl | rfl | rfl
  · show i_v h X 39 j = _
    simp [i_v0, i_v1, i_v2, i_v3, i_v4, i_v5, i_v6, i_v7, i_v8, i_v9, i_v10, i_v11, i_v12, i_v13, i_v14, i_v15, i_v16, i_v17, i_v18, i_v19, i_v20, i_v21, i_v22, i_v23, i_v24, i_v25, i_v26, i_v27, i_v28, i_v29, i_v30, i_v31, i_v32, zu, fnx, dX, q]
  · show i_v h X 43 j = _
    simp [i_v0, i_v1, i_v2, i_v3, i_v4, i_v5, i_v6, i_v7, i_v8, i_v9, i_v10, i_v11, i_v12, i_v13, i_v14, i_v15, i_v16, i_v17, i_v18, i_v19, i_v20, i_v21, i_v22, i_v23, i_v24, i_v25, i_v26, i_v27, i_v28, i_v29, i_v30, i_v31, i_v32, zu, fnx, dX, q]
  · show i_v h X 47 j = _
    simp [i_v0, i_v1, i_v2, i_v3, i_v4, i_v5, i_v6, i_v7, i_v8, i_v9, i_v10, i_v11, i_v12, i_v13, i_v14, i_v15, i_v16, i_v17, i_v18, i_v19, i_v20, i_v21, i_v22, i_v23, i_v24, i_v25, i_v26, i_v27, i_v28, i_v29, i_v30, i_v31, i_v32, zu, fnx, dX, q]
end
theorem hhr_rng (X : Int) : 1 ≤ hhr X ∧ hhr X ≤ 8 := by
  unfold hhr
  split <;> omega
theorem i_LD : LD (SH.take 70) i_r := by
  repeat' apply And.intro
  all_goals rfl
theorem i_LM : LM (SH.take 70) i_r := by
  repeat' apply And.intro
  all_goals rfl
theorem i_RL (cc wc n : Nat) : RL0 i_w cc wc n := fun j _ _ => by
  rw [iw_0, iw_0]
  omega
theorem i_INV (X : Int) : INV (SH.take 70) (i_v (hhr X) X) i_w i_r := by
  have hr := hhr_rng X
  obtain ⟨v, ev⟩ : ∃ v, v = i_v (hhr X) X := ⟨_, rfl⟩
  have z0 : ∀ {a : Nat}, ¬ (a = 2 ∨ a = 8 ∨ a = 15 ∨ a = 32 ∨ a = 36 ∨ a = 39 ∨ a = 40 ∨ a = 43 ∨ a = 44 ∨ a = 47 ∨ a = 48) → ∀ j, v a j = 0 := fun ha j => by
    rw [ev]
    exact iv_0 _ _ ha j
  have z1 : v 48 1 = hhr X := by rw [ev, iv_48]; rfl
  have z2 : v 48 2 = 0 := by rw [ev, iv_48]; rfl
  have z18 : v 48 18 = 64 := by rw [ev, iv_48]; rfl
  have y0 : v 32 0 = hhr X := by rw [ev, iv_32]; rfl
  have y1 : v 32 1 = 0 := by rw [ev, iv_32]; rfl
  have x5 : v 15 5 = 64 := by rw [ev, iv_15]; rfl
  have x7 : v 15 7 = 0 := by rw [ev, iv_15]; rfl
  have zu_ : ∀ u, 0 ≤ u → u < 3 → v (uc u) 0 = 1 ∧ v (uc u) 1 = 0 ∧ v (uc u) 2 = 1 ∧ v (uc u) 3 = 1 ∧ v (uc u) 4 = 1 ∧ v (uc u) 5 = 0 ∧ v (uc u) 6 = 3 := fun u u1 u2 => by
    rw [ev]
    exact iv_u _ _ u u1 u2
  have zn : ∀ u, 0 ≤ u → u < 3 → ∀ s c, 0 ≤ s → s < 15 → 0 ≤ c → c < 5 → v (uc u + 3) (s * 5 + c) = znx 1 0 1 1 1 s c := fun u u1 u2 s c s1 s2 c1 c2 => by
    rw [ev, iv_n _ _ u u1 u2 _ (by omega) (by omega), show (s * 5 + c) / 5 = s by omega, show (s * 5 + c) % 5 = c by omega]
  have za : ∀ u, 0 ≤ u → u < 3 → ∀ j, v (uc u + 1) j = 0 ∧ v (uc u + 2) j = 0 := fun u u1 u2 j => by
    have r := uc_def u
    exact ⟨z0 (by omega) j, z0 (by omega) j⟩
  rw [← ev]
  refine ⟨⟨i_LD, i_LM⟩, ⟨⟨2, 8, ⟨rfl, rfl, Or.inl ⟨rfl, rfl⟩⟩, i_RL _ _ _, i_RL _ _ _⟩, ⟨19, 20, 21, 22, 23, 24, ⟨rfl, rfl, ⟨rfl, rfl, rfl, rfl, rfl, by decide, by decide⟩, ⟨rfl, rfl, rfl, rfl, rfl, by decide, by decide⟩, by decide, by decide, by decide, by decide, by decide⟩, i_RL _ _ _, i_RL _ _ _⟩⟩, ⟨⟨fun u u1 u2 => ?_, ⟨fun j j1 j2 => ?_, fun j j1 j2 => ?_⟩, fun u u1 u2 => ?_, fun k k1 k2 => ?_, ⟨?_, ?_⟩, fun j j1 j2 => ?_⟩, ⟨⟨by rw [y0, z1], by rw [y1, z2]⟩, fun k k1 k2 => ?_, fun j j1 j2 => ?_, fun u u1 u2 => ?_, fun u u1 u2 => ?_, fun u u1 u2 s c s1 s2 c1 c2 => ?_⟩, fun u u1 u2 => ⟨fun s c s1 s2 c1 c2 => ?_, fun c c1 c2 => ?_, fun s s1 s2 => ?_, ?_⟩⟩, ⟨⟨funext fun j => ?_, funext fun j => ?_⟩, fun u u1 u2 u3 => ?_, fun k k1 k2 => ?_⟩, ⟨by rw [x5, z18], by rw [z18]; omega, by rw [z18]; omega⟩, by rw [iw_0]; omega, Or.inl ⟨x7, z18, ?_⟩⟩
  · rw [z0 (by omega), z0 (by omega), z0 (by omega), z0 (by omega), z0 (by omega), z0 (by omega), z0 (by omega)]
    omega
  · rw [z0 (by omega)]
    omega
  · rw [z0 (by omega)]
    omega
  · rw [z2] at u2
    omega
  · rw [z0 (by omega), z0 (by omega), z0 (by omega)]
    omega
  · rw [z1]
    exact hr
  · rw [z2]
    omega
  · rw [z0 (by omega)]
    omega
  · rw [z0 (by omega), z0 (by omega), z0 (by omega), z0 (by omega), z0 (by omega), z0 (by omega)]
    exact ⟨rfl, rfl, rfl⟩
  · rw [z0 (by omega), z0 (by omega)]
    exact ⟨rfl, fun _ => rfl⟩
  · rw [z2] at u2
    omega
  · rw [z2] at u1
    exact ⟨zu_ u u1 u2, (za u u1 u2 0).1⟩
  · obtain ⟨a0, a1, a2, a3, a4, -⟩ := zu_ u u1 u2
    unfold dX
    rw [zn u u1 u2 s c s1 s2 c1 c2, a0, a1, a2, a3, a4]
  · rw [zn u u1 u2 s c s1 s2 c1 c2]
    exact znx_rng (by omega) ⟨s1, s2⟩ ⟨c1, c2⟩
  · rw [(za u u1 u2 c).1]
    omega
  · rw [(za u u1 u2 s).2]
    omega
  · rw [(zu_ u u1 u2).1]
    omega
  · rw [z0 (by omega), z0 (by omega)]
  · rw [z0 (by omega), z0 (by omega)]
  · exact ⟨z0 (by omega) u, fun j _ _ => z0 (by omega) _, fun s _ _ => z0 (by omega) _, fun c _ _ => (za u u1 u3 c).1, fun s _ _ => (za u u1 u3 s).2⟩
  · refine ⟨by rw [z0 (by omega), z0 (by omega)], by rw [z0 (by omega)]; omega, fun j j1 j2 => ⟨?_, ?_, fun _ => z0 (by omega) _⟩⟩
    · rw [z0 (by omega), z0 (by omega)]
    · rw [z0 (by omega)]
      omega
  · rw [iw_0]
    unfold bnd
    rw [z2, zsum_0 (fun i => by rw [z0 (by omega), Int.zero_mul])]
    rfl
