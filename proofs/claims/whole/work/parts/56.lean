/-! THE STARTING WORLD: both sides alike -/
def w24 : XW := [.inr (3, [.ref 1, .ref 4, .ref 10, .ref 12, .ref 13, .ref 14, .int 0]), .inr (0, [.ref 2, .ref 3]), .inl (0, 72, f0X), .inl (0, 24, fun _ => 0), .inr (2, [.ref 5, .ref 8, .ref 9, .int 0]), .inr (0, [.ref 6, .ref 7]), .inl (0, 72, f0X), .inl (0, 24, fun _ => 0), .inl (0, 729, fun _ => 0), .inl (0, 5, fun _ => 0), .inr (1, [.ref 11, .int 0]), .inl (0, 80, fun _ => 0), .inl (0, 432, fun _ => 0), .inl (0, 144, fun _ => 0), .inl (1, 2, fun _ => 0), .inr (4, [.ref 16, .ref 17, .int 0, .ref 18, .ref 19, .ref 20, .int 0, .int 0, .ref 21, .int 0, .ref 22, .ref 23]), .inl (0, 72, gBX), .inl (0, 432, fun _ => 0), .inl (0, 144, fun _ => 0), .inl (1, 2, fun _ => 0), .inl (0, 80, fun _ => 0), .inl (0, 85, fun _ => 0), .inl (0, 6, fun _ => 0), .inl (0, 3, fun _ => 0)]
theorem f0X_cn : Cn 72 f0X := fun k hk => if_neg (by omega)
theorem f0X_gd : Gd f0X := by
  refine ⟨f0X_cn, fun i hi => ⟨0, by omega, if_neg (by omega)⟩, fun i hi => ?_, fun k hk => ⟨1, by omega, if_pos hk⟩, fun g hg z => ?_⟩
  · have e : f0X (12 + i) = 0 := if_neg (by omega)
    rw [e]
    decide +kernel
  · have e : f0X (3 * g) = 1 := if_pos (by omega)
    rw [e] at z
    exact absurd z.1 (by decide +kernel)
theorem MV_B : MV gBX = f0X := by
  funext k
  rw [MV_at]
  unfold gBX gCX f0X mj mi
  by_cases h72 : k < 72
  · rw [if_pos h72]
    by_cases h66 : k < 66
    · rw [if_pos h66]
      by_cases h3 : k < 3
      · rw [if_pos h3, if_pos h3, if_pos (by omega)]
      · rw [if_neg h3]
        by_cases h12 : k < 12
        · rw [if_pos h12, if_neg (by omega), if_pos (by omega), if_pos h12]
        · rw [if_neg h12, if_neg (by omega), if_neg (by omega), if_neg h12]
    · rw [if_neg h66, if_neg (by omega), if_neg (by omega), if_neg (by omega)]
  · rw [if_neg h72, if_neg (by omega)]
theorem w24_JC (H : Nat → Nat → Int32) (Sl : Nat → Nat → Int32) : JC w24 f0X 0 H (fun _ => false) Sl := by
  refine ⟨by omega, ?_, ⟨vZ, ⟨rfl, rfl, rfl, rfl, rfl⟩, Vc.z _, Cn.z 24⟩, ⟨0, f0X, vZ, vZ, vZ, ⟨⟨rfl, rfl, rfl, rfl, rfl⟩, rfl, rfl, rfl, f0X_cn, Cn.z 24, Cn.z 5⟩, Vc.z _, Or.inl rfl⟩, ⟨vZ, rfl, Cn.z 432, fun i hi => absurd hi (by omega)⟩, ⟨vZ, vZ, rfl, Cn.z 144, rfl, fun i hi => ⟨rfl, fun z => by cases z⟩⟩⟩
  unfold CO
  rw [← xl0]
  rfl
theorem w24_JM (H : Nat → Nat → Int32) (Sl : Nat → Nat → Int32) : JM w24 f0X 0 H (fun _ => false) Sl 0 0 0 := by
  refine ⟨by omega, ?_, ⟨gBX, vZ, vZ, rfl, rfl, rfl, MV_B⟩, ⟨vZ, rfl, fun i hi => absurd hi (by omega)⟩, ⟨vZ, vZ, rfl, rfl, fun i hi => ⟨rfl, fun z => by cases z⟩⟩⟩
  unfold MO
  rw [← xl0]
  rfl
theorem w24_JX : JX w24 := by
  refine ⟨0, 0, 0, ⟨f0X, 0, fun _ _ => 0, fun _ => false, fun _ _ => 0, w24_JC _ _, w24_JM _ _, f0X_gd, fun i hi => absurd hi (by omega), fun i hi z => by cases z⟩, ⟨0, vZ, vZ, vZ, by omega, xl0, ?_, rfl, rfl, rfl, fun i hi => absurd hi (by omega)⟩⟩
  rw [← xl0]
  rfl
