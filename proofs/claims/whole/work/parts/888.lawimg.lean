section LawImg
variable {D : va_G} {H : Heap} {A : Nat → Prop} {s1 s2 s3 s4 s5 s6 t t1 t2 T T1 : va_W}
theorem lw_go (hT : T = t ++ T1) (h : va_P D vwCl (lwW s1 s2 s3 s4 s5 s6 T) H) : va_P D vwCl ((s1 ++ s2 ++ t) ++ (s3 ++ (s4 ++ (s5 ++ (s6 ++ T1))))) H := by
  subst hT; exact va_P_pm (pm_t s1 s2 s3 s4 s5 s6 t T1) h
theorem lw_goD (hT : T = t ++ T1) (h : va_D A (lwW s1 s2 s3 s4 s5 s6 T)) : va_D A ((s1 ++ s2 ++ t) ++ (s3 ++ (s4 ++ (s5 ++ (s6 ++ T1))))) := by
  subst hT; exact va_D_pm (pm_t s1 s2 s3 s4 s5 s6 t T1) h
theorem lw_go3 (hT : T = (t1 ++ t2) ++ T1) (h : va_P D vwCl (lwW s1 s2 s3 s4 s5 s6 T) H) : va_P D vwCl ((((s1 ++ s2) ++ t1) ++ t2) ++ (s3 ++ (s4 ++ (s5 ++ (s6 ++ T1))))) H := by
  have := lw_go hT h
  rw [← List.append_assoc (s1 ++ s2)] at this; exact this
theorem lw_go3D (hT : T = (t1 ++ t2) ++ T1) (h : va_D A (lwW s1 s2 s3 s4 s5 s6 T)) : va_D A ((((s1 ++ s2) ++ t1) ++ t2) ++ (s3 ++ (s4 ++ (s5 ++ (s6 ++ T1))))) := by
  have := lw_goD hT h
  rw [← List.append_assoc (s1 ++ s2)] at this; exact this
theorem lw_bk3 (h : va_P D vwCl ((((s1 ++ s2) ++ t1) ++ t2) ++ (s3 ++ (s4 ++ (s5 ++ (s6 ++ T1))))) H) (hD : va_D A ((((s1 ++ s2) ++ t1) ++ t2) ++ (s3 ++ (s4 ++ (s5 ++ (s6 ++ T1)))))) : ∃ T2, T2 = (t1 ++ t2) ++ T1 ∧ va_P D vwCl (lwW s1 s2 s3 s4 s5 s6 T2) H ∧ va_D A (lwW s1 s2 s3 s4 s5 s6 T2) := by
  rw [List.append_assoc (s1 ++ s2)] at h hD
  exact ⟨_, rfl, va_P_pm (pm_t s1 s2 s3 s4 s5 s6 (t1 ++ t2) T1).symm h, va_D_pm (pm_t s1 s2 s3 s4 s5 s6 (t1 ++ t2) T1).symm hD⟩
end LawImg
