/-- what stands left of an 'and' that holds -/
theorem st_left {a b : Cond} {args : Array Value} {s : State} (h : (Cond.and a b).before args s = true) : a.before args s = true := by
  have h1 : ((Cond.and a b).value args s none s [] == some true) = true := h
  show (a.value args s none s [] == some true) = true
  rw [show (Cond.and a b).value args s none s [] = (match a.value args s none s [] with | some true => b.value args s none s [] | x => x) by rw [Cond.value]; rfl] at h1
  cases hx : a.value args s none s [] with
  | none => rw [hx] at h1; simp at h1
  | some v => cases v with
    | true => rfl
    | false => rw [hx] at h1; simp at h1
/-- what stands right of it -/
theorem st_right {a b : Cond} {args : Array Value} {s : State} (h : (Cond.and a b).before args s = true) : b.before args s = true := by
  have h1 : ((Cond.and a b).value args s none s [] == some true) = true := h
  show (b.value args s none s [] == some true) = true
  rw [show (Cond.and a b).value args s none s [] = (match a.value args s none s [] with | some true => b.value args s none s [] | x => x) by rw [Cond.value]; rfl] at h1
  cases hx : a.value args s none s [] with
  | none => rw [hx] at h1; simp at h1
  | some v => cases v with
    | true => rw [hx] at h1; exact h1
    | false => rw [hx] at h1; simp at h1
/-- a pair said not castable names a class that is there -/
theorem st_named {C T : String} {args : Array Value} {s : State} (h : (Cond.not (Cond.castable C T)).before args s = true) : ∃ c, s.vm.findClass C = some c := by
  cases hf : s.vm.findClass C with
  | some c => exact ⟨c, rfl⟩
  | none =>
    have h1 : ((Cond.not (Cond.castable C T)).value args s none s [] == some true) = true := h
    rw [show (Cond.not (Cond.castable C T)).value args s none s [] = none by simp only [Cond.value, hf, Option.map_none]] at h1
    simp at h1
/-- EVERY STATE THAT MEETS THE CLAIM's OWN PREMISE HOLDS THE ARRAY CLASS OVER StackTraceElement -/
theorem st_lays {args : Array Value} {s : State} (h : narrow_1.before args s = true) : ∃ c, s.vm.findClass "[Ljava/lang/StackTraceElement;" = some c :=
  st_named (T := "java/lang/String") (st_right (st_right (st_left (st_left (st_right (st_left (st_left (st_right (st_right (st_left h))))))))))
/-- so a state without it meets no premise of the claim -/
theorem st_not {args : Array Value} {s : State} (h : s.vm.findClass "[Ljava/lang/StackTraceElement;" = none) : (Cond.and given_1 narrow_1).before args s = false := by
  cases hb : (Cond.and given_1 narrow_1).before args s with
  | false => rfl
  | true => obtain ⟨c, hc⟩ := st_lays (st_right hb); rw [h] at hc; exact absurd hc (by simp)
