/-! count, type, clearText, fault -/
theorem div_bit (w i : Nat) : w / 2 ^ i % 2 = if w.testBit i = true then 1 else 0 := by
  have := zb_and1 w i
  rw [Nat.shiftRight_eq_div_pow, Nat.and_one_is_mod] at this
  exact this
def eq1 (gr : Nat → Nat) (u v : Nat) : Nat := if (gr u).testBit v = true then 1 else 0
theorem pa_bit {n pa : Nat} {gr : Nat → Nat} (hp : pR n pa gr) {u v : Nat} (hu : u < 6) (hv : v < 6) : pa / 2 ^ (6 * u + v) % 2 = if u = v then (if u < n then 1 else 0) else eq1 gr u v := by
  rw [div_bit]
  have h := hp.2.2.1 u v hu hv
  unfold eq1
  by_cases e : u = v
  · subst e
    rw [if_pos rfl]
    have hl := (hp.2.2.2.1 u hu).2
    by_cases c : u < n
    · rw [if_pos c, if_pos (h.mpr (Or.inl ⟨rfl, c⟩))]
    · rw [if_neg c, if_neg (fun z => (h.mp z).elim (fun y => c y.2) (fun y => by rw [hl] at y; cases y))]
  · rw [if_neg e]
    by_cases c : (gr u).testBit v = true
    · rw [if_pos c, if_pos (h.mpr (Or.inr c))]
    · rw [if_neg c, if_neg (fun z => (h.mp z).elim (fun y => e y.1) c)]
theorem eq1_le (gr : Nat → Nat) (u v : Nat) : eq1 gr u v ≤ 1 := by unfold eq1; split <;> omega
theorem eq1_sym {n pa : Nat} {gr : Nat → Nat} (hp : pR n pa gr) {u v : Nat} (hu : u < 6) (hv : v < 6) : eq1 gr u v = eq1 gr v u := by unfold eq1; rw [hp.2.2.2.2.1 u v hu hv]
def bcs (f : Nat → Nat) : Nat → Nat
  | 0 => 0
  | i + 1 => bcs f i + f i
theorem bc_bcs (w : Nat) : ∀ k, bc w k = bcs (fun i => w / 2 ^ i % 2) k := by
  intro k
  induction k with
  | zero => rfl
  | succ k ih => unfold bc bcs; rw [ih]
theorem ed_bcs (F : FF) : ∀ k, edM F k = bcs (fun k => if k / 6 < k % 6 then (if (F 64 (5 + k / 6)).testBit (k % 6) = true then 1 else 0) else 0) k := by
  intro k
  induction k with
  | zero => rfl
  | succ k ih => unfold edM bcs; rw [ih]
theorem bcs36 (f : Nat → Nat) : bcs f 36 = 0 + f 0 + f 1 + f 2 + f 3 + f 4 + f 5 + f 6 + f 7 + f 8 + f 9 + f 10 + f 11 + f 12 + f 13 + f 14 + f 15 + f 16 + f 17 + f 18 + f 19 + f 20 + f 21 + f 22 + f 23 + f 24 + f 25 + f 26 + f 27 + f 28 + f 29 + f 30 + f 31 + f 32 + f 33 + f 34 + f 35 := rfl
theorem diag6 {n : Nat} (hn : n ≤ 6) : (if 0 < n then 1 else 0) + (if 1 < n then 1 else 0) + (if 2 < n then 1 else 0) + (if 3 < n then 1 else 0) + (if 4 < n then 1 else 0) + (if 5 < n then 1 else 0) = n := by
  rcases (show n = 0 ∨ n = 1 ∨ n = 2 ∨ n = 3 ∨ n = 4 ∨ n = 5 ∨ n = 6 by omega) with rfl | rfl | rfl | rfl | rfl | rfl | rfl <;> rfl
theorem sum36 {n : Nat} (f : Nat → Nat) (e : Nat → Nat → Nat) (i : Nat → Nat) (hi : i 0 + i 1 + i 2 + i 3 + i 4 + i 5 = n) (hf : ∀ u v, u < 6 → v < 6 → f (6 * u + v) = if u = v then i u else e u v) (hs : ∀ u v, u < 6 → v < 6 → e u v = e v u) : bcs f 36 = n + 2 * (e 0 1 + e 0 2 + e 0 3 + e 0 4 + e 0 5 + e 1 2 + e 1 3 + e 1 4 + e 1 5 + e 2 3 + e 2 4 + e 2 5 + e 3 4 + e 3 5 + e 4 5) := by
  have t0 : f 0 = i 0 := by have := hf 0 0 (by omega) (by omega); rw [if_pos rfl] at this; exact this
  have t1 : f 1 = e 0 1 := by have := hf 0 1 (by omega) (by omega); rw [if_neg (by omega)] at this; exact this
  have t2 : f 2 = e 0 2 := by have := hf 0 2 (by omega) (by omega); rw [if_neg (by omega)] at this; exact this
  have t3 : f 3 = e 0 3 := by have := hf 0 3 (by omega) (by omega); rw [if_neg (by omega)] at this; exact this
  have t4 : f 4 = e 0 4 := by have := hf 0 4 (by omega) (by omega); rw [if_neg (by omega)] at this; exact this
  have t5 : f 5 = e 0 5 := by have := hf 0 5 (by omega) (by omega); rw [if_neg (by omega)] at this; exact this
  have t6 : f 6 = e 0 1 := by have := hf 1 0 (by omega) (by omega); rw [if_neg (by omega), hs 1 0 (by omega) (by omega)] at this; exact this
  have t7 : f 7 = i 1 := by have := hf 1 1 (by omega) (by omega); rw [if_pos rfl] at this; exact this
  have t8 : f 8 = e 1 2 := by have := hf 1 2 (by omega) (by omega); rw [if_neg (by omega)] at this; exact this
  have t9 : f 9 = e 1 3 := by have := hf 1 3 (by omega) (by omega); rw [if_neg (by omega)] at this; exact this
  have t10 : f 10 = e 1 4 := by have := hf 1 4 (by omega) (by omega); rw [if_neg (by omega)] at this; exact this
  have t11 : f 11 = e 1 5 := by have := hf 1 5 (by omega) (by omega); rw [if_neg (by omega)] at this; exact this
  have t12 : f 12 = e 0 2 := by have := hf 2 0 (by omega) (by omega); rw [if_neg (by omega), hs 2 0 (by omega) (by omega)] at this; exact this
  have t13 : f 13 = e 1 2 := by have := hf 2 1 (by omega) (by omega); rw [if_neg (by omega), hs 2 1 (by omega) (by omega)] at this; exact this
  have t14 : f 14 = i 2 := by have := hf 2 2 (by omega) (by omega); rw [if_pos rfl] at this; exact this
  have t15 : f 15 = e 2 3 := by have := hf 2 3 (by omega) (by omega); rw [if_neg (by omega)] at this; exact this
  have t16 : f 16 = e 2 4 := by have := hf 2 4 (by omega) (by omega); rw [if_neg (by omega)] at this; exact this
  have t17 : f 17 = e 2 5 := by have := hf 2 5 (by omega) (by omega); rw [if_neg (by omega)] at this; exact this
  have t18 : f 18 = e 0 3 := by have := hf 3 0 (by omega) (by omega); rw [if_neg (by omega), hs 3 0 (by omega) (by omega)] at this; exact this
  have t19 : f 19 = e 1 3 := by have := hf 3 1 (by omega) (by omega); rw [if_neg (by omega), hs 3 1 (by omega) (by omega)] at this; exact this
  have t20 : f 20 = e 2 3 := by have := hf 3 2 (by omega) (by omega); rw [if_neg (by omega), hs 3 2 (by omega) (by omega)] at this; exact this
  have t21 : f 21 = i 3 := by have := hf 3 3 (by omega) (by omega); rw [if_pos rfl] at this; exact this
  have t22 : f 22 = e 3 4 := by have := hf 3 4 (by omega) (by omega); rw [if_neg (by omega)] at this; exact this
  have t23 : f 23 = e 3 5 := by have := hf 3 5 (by omega) (by omega); rw [if_neg (by omega)] at this; exact this
  have t24 : f 24 = e 0 4 := by have := hf 4 0 (by omega) (by omega); rw [if_neg (by omega), hs 4 0 (by omega) (by omega)] at this; exact this
  have t25 : f 25 = e 1 4 := by have := hf 4 1 (by omega) (by omega); rw [if_neg (by omega), hs 4 1 (by omega) (by omega)] at this; exact this
  have t26 : f 26 = e 2 4 := by have := hf 4 2 (by omega) (by omega); rw [if_neg (by omega), hs 4 2 (by omega) (by omega)] at this; exact this
  have t27 : f 27 = e 3 4 := by have := hf 4 3 (by omega) (by omega); rw [if_neg (by omega), hs 4 3 (by omega) (by omega)] at this; exact this
  have t28 : f 28 = i 4 := by have := hf 4 4 (by omega) (by omega); rw [if_pos rfl] at this; exact this
  have t29 : f 29 = e 4 5 := by have := hf 4 5 (by omega) (by omega); rw [if_neg (by omega)] at this; exact this
  have t30 : f 30 = e 0 5 := by have := hf 5 0 (by omega) (by omega); rw [if_neg (by omega), hs 5 0 (by omega) (by omega)] at this; exact this
  have t31 : f 31 = e 1 5 := by have := hf 5 1 (by omega) (by omega); rw [if_neg (by omega), hs 5 1 (by omega) (by omega)] at this; exact this
  have t32 : f 32 = e 2 5 := by have := hf 5 2 (by omega) (by omega); rw [if_neg (by omega), hs 5 2 (by omega) (by omega)] at this; exact this
  have t33 : f 33 = e 3 5 := by have := hf 5 3 (by omega) (by omega); rw [if_neg (by omega), hs 5 3 (by omega) (by omega)] at this; exact this
  have t34 : f 34 = e 4 5 := by have := hf 5 4 (by omega) (by omega); rw [if_neg (by omega), hs 5 4 (by omega) (by omega)] at this; exact this
  have t35 : f 35 = i 5 := by have := hf 5 5 (by omega) (by omega); rw [if_pos rfl] at this; exact this
  rw [bcs36, t0, t1, t2, t3, t4, t5, t6, t7, t8, t9, t10, t11, t12, t13, t14, t15, t16, t17, t18, t19, t20, t21, t22, t23, t24, t25, t26, t27, t28, t29, t30, t31, t32, t33, t34, t35]
  clear hf hs t0 t1 t2 t3 t4 t5 t6 t7 t8 t9 t10 t11 t12 t13 t14 t15 t16 t17 t18 t19 t20 t21 t22 t23 t24 t25 t26 t27 t28 t29 t30 t31 t32 t33 t34 t35
  omega
theorem half36 (f : Nat → Nat) (e : Nat → Nat → Nat) (hf : ∀ u v, u < 6 → v < 6 → f (6 * u + v) = if u < v then e u v else 0) : bcs f 36 = e 0 1 + e 0 2 + e 0 3 + e 0 4 + e 0 5 + e 1 2 + e 1 3 + e 1 4 + e 1 5 + e 2 3 + e 2 4 + e 2 5 + e 3 4 + e 3 5 + e 4 5 := by
  have t0 : f 0 = 0 := by have := hf 0 0 (by omega) (by omega); rw [if_neg (by omega)] at this; exact this
  have t1 : f 1 = e 0 1 := by have := hf 0 1 (by omega) (by omega); rw [if_pos (by omega)] at this; exact this
  have t2 : f 2 = e 0 2 := by have := hf 0 2 (by omega) (by omega); rw [if_pos (by omega)] at this; exact this
  have t3 : f 3 = e 0 3 := by have := hf 0 3 (by omega) (by omega); rw [if_pos (by omega)] at this; exact this
  have t4 : f 4 = e 0 4 := by have := hf 0 4 (by omega) (by omega); rw [if_pos (by omega)] at this; exact this
  have t5 : f 5 = e 0 5 := by have := hf 0 5 (by omega) (by omega); rw [if_pos (by omega)] at this; exact this
  have t6 : f 6 = 0 := by have := hf 1 0 (by omega) (by omega); rw [if_neg (by omega)] at this; exact this
  have t7 : f 7 = 0 := by have := hf 1 1 (by omega) (by omega); rw [if_neg (by omega)] at this; exact this
  have t8 : f 8 = e 1 2 := by have := hf 1 2 (by omega) (by omega); rw [if_pos (by omega)] at this; exact this
  have t9 : f 9 = e 1 3 := by have := hf 1 3 (by omega) (by omega); rw [if_pos (by omega)] at this; exact this
  have t10 : f 10 = e 1 4 := by have := hf 1 4 (by omega) (by omega); rw [if_pos (by omega)] at this; exact this
  have t11 : f 11 = e 1 5 := by have := hf 1 5 (by omega) (by omega); rw [if_pos (by omega)] at this; exact this
  have t12 : f 12 = 0 := by have := hf 2 0 (by omega) (by omega); rw [if_neg (by omega)] at this; exact this
  have t13 : f 13 = 0 := by have := hf 2 1 (by omega) (by omega); rw [if_neg (by omega)] at this; exact this
  have t14 : f 14 = 0 := by have := hf 2 2 (by omega) (by omega); rw [if_neg (by omega)] at this; exact this
  have t15 : f 15 = e 2 3 := by have := hf 2 3 (by omega) (by omega); rw [if_pos (by omega)] at this; exact this
  have t16 : f 16 = e 2 4 := by have := hf 2 4 (by omega) (by omega); rw [if_pos (by omega)] at this; exact this
  have t17 : f 17 = e 2 5 := by have := hf 2 5 (by omega) (by omega); rw [if_pos (by omega)] at this; exact this
  have t18 : f 18 = 0 := by have := hf 3 0 (by omega) (by omega); rw [if_neg (by omega)] at this; exact this
  have t19 : f 19 = 0 := by have := hf 3 1 (by omega) (by omega); rw [if_neg (by omega)] at this; exact this
  have t20 : f 20 = 0 := by have := hf 3 2 (by omega) (by omega); rw [if_neg (by omega)] at this; exact this
  have t21 : f 21 = 0 := by have := hf 3 3 (by omega) (by omega); rw [if_neg (by omega)] at this; exact this
  have t22 : f 22 = e 3 4 := by have := hf 3 4 (by omega) (by omega); rw [if_pos (by omega)] at this; exact this
  have t23 : f 23 = e 3 5 := by have := hf 3 5 (by omega) (by omega); rw [if_pos (by omega)] at this; exact this
  have t24 : f 24 = 0 := by have := hf 4 0 (by omega) (by omega); rw [if_neg (by omega)] at this; exact this
  have t25 : f 25 = 0 := by have := hf 4 1 (by omega) (by omega); rw [if_neg (by omega)] at this; exact this
  have t26 : f 26 = 0 := by have := hf 4 2 (by omega) (by omega); rw [if_neg (by omega)] at this; exact this
  have t27 : f 27 = 0 := by have := hf 4 3 (by omega) (by omega); rw [if_neg (by omega)] at this; exact this
  have t28 : f 28 = 0 := by have := hf 4 4 (by omega) (by omega); rw [if_neg (by omega)] at this; exact this
  have t29 : f 29 = e 4 5 := by have := hf 4 5 (by omega) (by omega); rw [if_pos (by omega)] at this; exact this
  have t30 : f 30 = 0 := by have := hf 5 0 (by omega) (by omega); rw [if_neg (by omega)] at this; exact this
  have t31 : f 31 = 0 := by have := hf 5 1 (by omega) (by omega); rw [if_neg (by omega)] at this; exact this
  have t32 : f 32 = 0 := by have := hf 5 2 (by omega) (by omega); rw [if_neg (by omega)] at this; exact this
  have t33 : f 33 = 0 := by have := hf 5 3 (by omega) (by omega); rw [if_neg (by omega)] at this; exact this
  have t34 : f 34 = 0 := by have := hf 5 4 (by omega) (by omega); rw [if_neg (by omega)] at this; exact this
  have t35 : f 35 = 0 := by have := hf 5 5 (by omega) (by omega); rw [if_neg (by omega)] at this; exact this
  rw [bcs36, t0, t1, t2, t3, t4, t5, t6, t7, t8, t9, t10, t11, t12, t13, t14, t15, t16, t17, t18, t19, t20, t21, t22, t23, t24, t25, t26, t27, t28, t29, t30, t31, t32, t33, t34, t35]
  clear hf t0 t1 t2 t3 t4 t5 t6 t7 t8 t9 t10 t11 t12 t13 t14 t15 t16 t17 t18 t19 t20 t21 t22 t23 t24 t25 t26 t27 t28 t29 t30 t31 t32 t33 t34 t35
  omega
theorem edges_eq {F : FF} {pa : Nat} (hp : pR (F 64 0) pa (fun u => F 64 (5 + u))) : bc pa 36 = F 64 0 + 2 * edM F 36 ∧ edM F 36 < 36 := by
  have h1 := sum36 (n := F 64 0) (fun i => pa / 2 ^ i % 2) (eq1 (fun u => F 64 (5 + u))) (fun u => if u < F 64 0 then 1 else 0) (diag6 hp.1) (fun u v hu hv => pa_bit hp hu hv) (fun u v hu hv => eq1_sym hp hu hv)
  have h2 := half36 (fun k => if k / 6 < k % 6 then (if (F 64 (5 + k / 6)).testBit (k % 6) = true then 1 else 0) else 0) (eq1 (fun u => F 64 (5 + u))) (fun u v hu hv => by
    show (if (6 * u + v) / 6 < (6 * u + v) % 6 then (if (F 64 (5 + (6 * u + v) / 6)).testBit ((6 * u + v) % 6) = true then 1 else 0) else 0) = _
    rw [show (6 * u + v) / 6 = u by omega, show (6 * u + v) % 6 = v by omega]
    rfl)
  rw [← bc_bcs] at h1
  rw [← ed_bcs] at h2
  refine ⟨by rw [h1, h2], ?_⟩
  rw [h2]
  have := eq1_le (fun u => F 64 (5 + u)) 0 1
  have := eq1_le (fun u => F 64 (5 + u)) 0 2
  have := eq1_le (fun u => F 64 (5 + u)) 0 3
  have := eq1_le (fun u => F 64 (5 + u)) 0 4
  have := eq1_le (fun u => F 64 (5 + u)) 0 5
  have := eq1_le (fun u => F 64 (5 + u)) 1 2
  have := eq1_le (fun u => F 64 (5 + u)) 1 3
  have := eq1_le (fun u => F 64 (5 + u)) 1 4
  have := eq1_le (fun u => F 64 (5 + u)) 1 5
  have := eq1_le (fun u => F 64 (5 + u)) 2 3
  have := eq1_le (fun u => F 64 (5 + u)) 2 4
  have := eq1_le (fun u => F 64 (5 + u)) 2 5
  have := eq1_le (fun u => F 64 (5 + u)) 3 4
  have := eq1_le (fun u => F 64 (5 + u)) 3 5
  have := eq1_le (fun u => F 64 (5 + u)) 4 5
  clear h1 h2 hp
  omega
