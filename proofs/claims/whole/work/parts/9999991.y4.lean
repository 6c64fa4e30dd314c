/-! MACHINE ROWS, 86: the new objects -/
abbrev zr11 : List Int := [-3, -3, -3, -3, -3, -3, -3, -3, -3, -3, -3, -3, -3]
abbrev zr12 : List Int := [-1, -1, -3, -1, -1, -1, -1, -2, -1, -1, -3, -3, -3, -3, -3, -3, -3, -3, -3, -3, -3, -3, -3, -3, -3, -3, -3, -3, -3, -1, -3, -3, -3, -3, -3, -3, -3, -3, -3, -3, -3, -3, -1, -1, -3, -3, -3, -3, -3, -3, -3, -3, -3, -1, -1, -3, -3, -1, -3, -3, -1, -3, -3]
/-- the memory as the law begins -/
def zm0 (xs : Int → Int) : zMem := fun c k => if c = 1000 then zunt k else if c = 1001 then zlea k else if c = 1002 then zmos k else if c = 1003 then xs k else 0
/-- the memory when the two objects and the row are made -/
def zmf (M : zMem) : zMem := zfr (zmI_X12_200 (zno (zmI_X11_0 (zno M 0 zr11)) 200 zr12)) 300 0
section MF
variable {xs : Int → Int}
theorem zmf_40 (k : Nat) (h : k = 0 ∨ k = 1 ∨ k = 7 ∨ k = 13 ∨ k = 14) : zmf (zm0 xs) 40 (k : Int) = 0 := by
  rcases h with rfl | rfl | rfl | rfl | rfl <;> rfl
theorem zmf_80 : zmf (zm0 xs) 80 0 = 0 := rfl
theorem zmf_20 : zmf (zm0 xs) 20 1 = 0 := rfl
theorem zmf_2001 : zmf (zm0 xs) 200 1 = 0 := rfl
theorem zmf_20043 : zmf (zm0 xs) 200 43 = 0 := rfl
theorem zmf_211 (k : Int) : zmf (zm0 xs) 211 k = 0 := rfl
theorem zmf_212 (k : Int) : zmf (zm0 xs) 212 k = 0 := rfl
theorem zmf_213 (k : Int) : zmf (zm0 xs) 213 k = 0 := rfl
theorem zmf_262 (k : Int) : zmf (zm0 xs) 262 k = 0 := rfl
theorem zmf_6 (k : Int) : zmf (zm0 xs) 6 k = -1 := rfl
theorem zmf_7 (k : Int) : zmf (zm0 xs) 7 k = -1 := rfl
theorem zmf_59 (k : Int) : zmf (zm0 xs) 59 k = zunt k := rfl
theorem zmf_1000 (k : Int) : zmf (zm0 xs) 1000 k = zunt k ∧ zmf (zm0 xs) 1001 k = zlea k ∧ zmf (zm0 xs) 1002 k = zmos k := ⟨rfl, rfl, rfl⟩
theorem zmf_225 (k : Nat) (h : k < 11) : zmf (zm0 xs) 225 (k : Int) = zunt k := by
  rcases (show k = 0 ∨ k = 1 ∨ k = 2 ∨ k = 3 ∨ k = 4 ∨ k = 5 ∨ k = 6 ∨ k = 7 ∨ k = 8 ∨ k = 9 ∨ k = 10 by omega) with rfl | rfl | rfl | rfl | rfl | rfl | rfl | rfl | rfl | rfl | rfl <;> rfl
theorem zunt_r (k : Int) (h0 : 0 ≤ k) (h1 : k < 11) : zlea k ≤ zunt k ∧ zunt k ≤ zmos k := by
  obtain ⟨n, rfl⟩ : ∃ n : Nat, k = n := ⟨k.toNat, by omega⟩
  rcases (show n = 0 ∨ n = 1 ∨ n = 2 ∨ n = 3 ∨ n = 4 ∨ n = 5 ∨ n = 6 ∨ n = 7 ∨ n = 8 ∨ n = 9 ∨ n = 10 by omega) with rfl | rfl | rfl | rfl | rfl | rfl | rfl | rfl | rfl | rfl | rfl <;> exact ⟨by decide, by decide⟩
theorem zmf_St : St (zmf (zm0 xs)) := by
  have a0 : zmf (zm0 xs) 40 0 = 0 := zmf_40 0 (by decide)
  have a1 : zmf (zm0 xs) 40 1 = 0 := zmf_40 1 (by decide)
  have a7 : zmf (zm0 xs) 40 7 = 0 := zmf_40 7 (by decide)
  have a13 : zmf (zm0 xs) 40 13 = 0 := zmf_40 13 (by decide)
  have a14 : zmf (zm0 xs) 40 14 = 0 := zmf_40 14 (by decide)
  have b0 := zmf_80 (xs := xs)
  have t0 := zmf_20 (xs := xs)
  have t1 := zmf_2001 (xs := xs)
  have n0 := zmf_20043 (xs := xs)
  have p1 := zmf_211 (xs := xs) 0
  have p2 := zmf_212 (xs := xs) 0
  have p3 := zmf_213 (xs := xs) 0
  have q1 := zmf_262 (xs := xs)
  have q2 := zmf_6 (xs := xs)
  have q3 := zmf_7 (xs := xs)
  have q4 := zmf_59 (xs := xs)
  have q5 := zmf_225 (xs := xs)
  have q6 := zmf_1000 (xs := xs)
  generalize zmf (zm0 xs) = σ at *
  refine ⟨⟨⟨⟨?_, ?_, ?_⟩, ⟨?_, ?_, ?_⟩, ?_, ?_, ?_⟩, fun k k0 k1 => ?_, fun k k0 k1 => ?_, fun k k0 k1 => ?_, ?_, ⟨?_, ?_⟩, fun k hk => ?_⟩, ⟨⟨?_, ?_, ?_⟩, fun k k0 k1 => ?_, fun k k0 k1 => ?_⟩, fun m hm => ?_, ⟨⟨?_, ?_, ?_⟩, fun k k0 k1 => ?_⟩, fun k _ _ => q6 k⟩
  · omega
  · omega
  · omega
  · omega
  · omega
  · omega
  · omega
  · omega
  · omega
  · omega
  · omega
  · have e : σ (40 + 19) k = zunt k := q4 k
    rw [e]
    have e2 := q5 k.toNat (by omega)
    rw [show ((k.toNat : Nat) : Int) = k by omega] at e2
    rw [show 11 * (0 : Int) + k = k by omega]
    exact ⟨e2, zunt_r k k0 k1⟩
  · rw [a1, a0]; rfl
  · omega
  · omega
  · omega
  · omega
  · omega
  · omega
  · omega
  · omega
  · exact Or.inl ⟨q1 _, by rw [q2]; decide, by rw [q3]; decide⟩
  · omega
  · omega
  · omega
  · omega
theorem zmf_Cs : Cs (zmf (zm0 xs)) (zmf (zm0 xs)) := ⟨fun h => absurd (show zmf (zm0 xs) 90 5 = 0 from rfl) h, fun h => absurd (show zmf (zm0 xs) 110 7 = 0 from rfl) h, fun h => absurd (show zmf (zm0 xs) 130 10 = 0 from rfl) h, fun h => absurd (show zmf (zm0 xs) 150 13 = 0 from rfl) h, fun h => absurd (show zmf (zm0 xs) 170 7 = 0 from rfl) h⟩
theorem zmf_Inv : Inv (zmf (zm0 xs)) (zmf (zm0 xs)) := ⟨_, fun _ _ _ => rfl, zmf_St, zmf_Cs, fun _ => ⟨rfl, rfl⟩⟩
end MF
