/-! the branches -/
theorem yo_lvs : (yu_exp yo_stop yo_cj yo_ca yo_K yo_nx 40 18 (ys_sT yo_B yo_H) []).isSome = true := by decide +kernel
theorem yo_lvok : yu_exp yo_stop yo_cj yo_ca yo_K yo_nx 40 18 (ys_sT yo_B yo_H) [] = some yo_lv := by
  unfold yo_lv
  cases h : yu_exp yo_stop yo_cj yo_ca yo_K yo_nx 40 18 (ys_sT yo_B yo_H) [] with
  | none =>
    have := yo_lvs
    rw [h] at this
    cases this
  | some x => rfl
theorem yo_len : yo_lv.length = 40 := by decide +kernel
theorem yo_b0 : yo_ro (yo_lv[0]?) = true := by decide +kernel
theorem yo_b1 : yo_ro (yo_lv[1]?) = true := by decide +kernel
theorem yo_b2 : yo_ro (yo_lv[2]?) = true := by decide +kernel
theorem yo_b3 : yo_ro (yo_lv[3]?) = true := by decide +kernel
theorem yo_b4 : yo_ro (yo_lv[4]?) = true := by decide +kernel
theorem yo_b5 : yo_ro (yo_lv[5]?) = true := by decide +kernel
theorem yo_b6 : yo_ro (yo_lv[6]?) = true := by decide +kernel
theorem yo_b7 : yo_ro (yo_lv[7]?) = true := by decide +kernel
theorem yo_b8 : yo_ro (yo_lv[8]?) = true := by decide +kernel
theorem yo_b9 : yo_ro (yo_lv[9]?) = true := by decide +kernel
theorem yo_b10 : yo_ro (yo_lv[10]?) = true := by decide +kernel
theorem yo_b11 : yo_ro (yo_lv[11]?) = true := by decide +kernel
theorem yo_b12 : yo_ro (yo_lv[12]?) = true := by decide +kernel
theorem yo_b13 : yo_ro (yo_lv[13]?) = true := by decide +kernel
theorem yo_b14 : yo_ro (yo_lv[14]?) = true := by decide +kernel
theorem yo_b15 : yo_ro (yo_lv[15]?) = true := by decide +kernel
theorem yo_b16 : yo_ro (yo_lv[16]?) = true := by decide +kernel
theorem yo_b17 : yo_ro (yo_lv[17]?) = true := by decide +kernel
theorem yo_b18 : yo_ro (yo_lv[18]?) = true := by decide +kernel
theorem yo_b19 : yo_ro (yo_lv[19]?) = true := by decide +kernel
theorem yo_b20 : yo_ro (yo_lv[20]?) = true := by decide +kernel
theorem yo_b21 : yo_ro (yo_lv[21]?) = true := by decide +kernel
theorem yo_b22 : yo_ro (yo_lv[22]?) = true := by decide +kernel
theorem yo_b23 : yo_ro (yo_lv[23]?) = true := by decide +kernel
theorem yo_b24 : yo_ro (yo_lv[24]?) = true := by decide +kernel
theorem yo_b25 : yo_ro (yo_lv[25]?) = true := by decide +kernel
theorem yo_b26 : yo_ro (yo_lv[26]?) = true := by decide +kernel
theorem yo_b27 : yo_ro (yo_lv[27]?) = true := by decide +kernel
theorem yo_b28 : yo_ro (yo_lv[28]?) = true := by decide +kernel
theorem yo_b29 : yo_ro (yo_lv[29]?) = true := by decide +kernel
theorem yo_b30 : yo_ro (yo_lv[30]?) = true := by decide +kernel
theorem yo_b31 : yo_ro (yo_lv[31]?) = true := by decide +kernel
theorem yo_b32 : yo_ro (yo_lv[32]?) = true := by decide +kernel
theorem yo_b33 : yo_ro (yo_lv[33]?) = true := by decide +kernel
theorem yo_b34 : yo_ro (yo_lv[34]?) = true := by decide +kernel
theorem yo_b35 : yo_ro (yo_lv[35]?) = true := by decide +kernel
theorem yo_b36 : yo_ro (yo_lv[36]?) = true := by decide +kernel
theorem yo_b37 : yo_ro (yo_lv[37]?) = true := by decide +kernel
theorem yo_b38 : yo_ro (yo_lv[38]?) = true := by decide +kernel
theorem yo_b39 : yo_ro (yo_lv[39]?) = true := by decide +kernel
theorem yo_bs : ∀ i, i < 40 → yo_ro (yo_lv[i]?) = true
  | 0, _ => yo_b0
  | 1, _ => yo_b1
  | 2, _ => yo_b2
  | 3, _ => yo_b3
  | 4, _ => yo_b4
  | 5, _ => yo_b5
  | 6, _ => yo_b6
  | 7, _ => yo_b7
  | 8, _ => yo_b8
  | 9, _ => yo_b9
  | 10, _ => yo_b10
  | 11, _ => yo_b11
  | 12, _ => yo_b12
  | 13, _ => yo_b13
  | 14, _ => yo_b14
  | 15, _ => yo_b15
  | 16, _ => yo_b16
  | 17, _ => yo_b17
  | 18, _ => yo_b18
  | 19, _ => yo_b19
  | 20, _ => yo_b20
  | 21, _ => yo_b21
  | 22, _ => yo_b22
  | 23, _ => yo_b23
  | 24, _ => yo_b24
  | 25, _ => yo_b25
  | 26, _ => yo_b26
  | 27, _ => yo_b27
  | 28, _ => yo_b28
  | 29, _ => yo_b29
  | 30, _ => yo_b30
  | 31, _ => yo_b31
  | 32, _ => yo_b32
  | 33, _ => yo_b33
  | 34, _ => yo_b34
  | 35, _ => yo_b35
  | 36, _ => yo_b36
  | 37, _ => yo_b37
  | 38, _ => yo_b38
  | 39, _ => yo_b39
  | n + 40, h => absurd h (by omega)
theorem yo_all : ∀ q ∈ yo_lv, yu_run 118 10 10 yo_cj yo_ca yo_K yo_nx yo_H 200 false q.1 q.2.1 q.2.2 = true := by
  intro q hq
  obtain ⟨i, hi⟩ := List.getElem?_of_mem hq
  have hl := (List.getElem?_eq_some_iff.mp hi).1
  rw [yo_len] at hl
  have h := yo_bs i hl
  rw [hi] at h
  exact h
