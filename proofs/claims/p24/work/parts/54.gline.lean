/-- a line's properties -/
def linV (P : PoT) (W k w : Nat) : Nat := if w = 0 then nLt (P.1 k) else if w = 1 then nCnt (P.1 k) else if w = 2 then nSt (P.1 k) else if w = 3 then nHf (P.1 k) else if w = 4 then (if lnS P k = true then 1 else 0) else if w = 5 then nLa (P.1 k) else if w = 6 then nuP P (k + 1) else if w = 7 then (layA P W k).1 else if w = 8 then lrS P W k else szO P k
