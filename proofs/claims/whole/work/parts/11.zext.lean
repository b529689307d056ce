/-! the letters of the tongue, by their places in the constant text -/
def ixL (c : Int) : Int := if c = 103 then 0 else if c = 119 then 1 else if c = 108 then 2 else if c = 112 then 3 else if c = 115 then 4 else if c = 100 then 5 else if c = 101 then 6 else if c = 107 then 7 else if c = 97 then 8 else if c = 102 then 9 else -1
