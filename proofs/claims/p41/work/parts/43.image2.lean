/-! image and restore of the model -/
section
variable {d : Nat} {A : AT} {M : PM}
def im52 (M : PM) : Nat → Int32 := va_up (va_up (va_up (va_up (va_up (va_up (M.1 52) 48 (jn 1)) 49 (M.1 52 0)) 52 (M.1 52 3)) 55 (M.1 52 6)) 59 (M.1 52 11)) 60 (M.1 52 12)
def re52 (M : PM) : Nat → Int32 := va_up (va_up (va_up (va_up (va_up (M.1 52) 0 (M.1 52 49)) 3 (M.1 52 52)) 6 (M.1 52 55)) 11 (M.1 52 59)) 12 (M.1 52 60)
end
