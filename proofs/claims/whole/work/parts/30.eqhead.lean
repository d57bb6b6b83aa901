def nc_lt (w : nc_H) (k : nc_H → Option nc_R) : Option nc_R := k w
def nc_li (x : Int32) (k : Int32 → Option nc_R) : Option nc_R := k x
def nc_ll (x : Int64) (k : Int64 → Option nc_R) : Option nc_R := k x
