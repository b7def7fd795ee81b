/-! OBJECTS come to be: what is common -/
def tkZ : List Nat := [0, 1, 2, 3]
theorem ra_one {s : State} {c1 c2 : ClassId} {k : Nat} (h1 : va_RA s c1 (kty k)) (h2 : va_RA s c2 (kty k)) : c1 = c2 := by
  match k, h1, h2 with
  | 0, h1, h2 => exact Option.some.inj (Eq.trans (Eq.symm h1) h2)
  | 1, h1, h2 => exact Option.some.inj (Eq.trans (Eq.symm h1) h2)
  | 2, h1, h2 => exact Option.some.inj (Eq.trans (Eq.symm h1) h2)
  | k + 3, h1, h2 => exact Option.some.inj (Eq.trans (Eq.symm h1) h2)
theorem k_one {D : va_G} {dA : Nat → ClassId} {s : State} {cA : ClassId} {k : Nat} (hk : k < 4) (h : va_K D vwCl (List.map (fun k => (dA k, kty k)) tkZ ++ [(cA, kty k)]) s) : cA = dA k := by
  have h1 := (h.2 4 (cA, kty k) rfl).2
  have h2 : va_RA s (dA k) (kty k) := (h.2 k (dA k, kty k) (by
    have : k = 0 ∨ k = 1 ∨ k = 2 ∨ k = 3 := by omega
    rcases this with rfl | rfl | rfl | rfl <;> rfl)).2
  exact ra_one h1 h2
theorem aoa_moved {s U : State} (hal : s.vm.Alike U.vm) (h : va_AOA .int s) : va_AOA .int U := by
  unfold va_AOA at *
  simp only [Cond.before, Cond.holds, Cond.value] at h ⊢
  rw [hal.findClass]
  cases hc : s.vm.findClass (FieldType.array .int).toString with
  | none => rw [hc] at h; simp at h
  | some comp =>
    rw [hc] at h
    simp only [Option.bind_some] at h ⊢
    rw [hal.findIdx?_eqK _ (fun _ => rfl)]
    generalize Array.findIdx? _ s.vm.classes = I at h ⊢
    cases I with
    | none => simp at h
    | some c =>
      simp only [Option.bind_some] at h ⊢
      cases hk : s.vm.classes[c]? with
      | none => rw [hk] at h; simp at h
      | some k =>
        obtain ⟨k', hk', he⟩ := hal.2.2 _ _ hk
        rw [hk] at h
        rw [hk']
        simp only [Option.map_some] at h ⊢
        rw [he, hal.findClass]
        exact h
theorem pl_rows {r : Nat → Nat} {f : Nat → va_E} {e : va_E} (N : Nat) : va_pl ([] ++ (List.range N).map r) (vr_up f ((List.range N).map r) e) = (List.range N).map (fun i => (r i, e)) := by
  unfold va_pl
  rw [List.nil_append, List.map_map]
  refine List.map_congr_left (fun i hi => ?_)
  show (r i, vr_up f _ e (r i)) = _
  rw [vr_up_in (List.mem_map.mpr ⟨i, hi, rfl⟩)]
theorem hz_in (K : Nat) (c : ClassId) : Jvm.Free.Multi.innerC c K (defaultValue .int) = vp_cell c (K, .inl (fun _ => 0)) := by
  show ({ cls := c, slots := Array.replicate K (.int 0), vm := .none } : Cell) = _
  rw [arrV_new]; rfl
